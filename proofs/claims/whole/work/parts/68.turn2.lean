/-- 8 v -/
theorem bind_turn {f0 g n p : Nat} {kd lb lr : Nat → Nat} {pt : Nat → Nat → Nat} {fs : List (Nat × Nat × Nat × Nat)} {iv : mI} {ar : mA} {iw : mI} {aw : mA} {la : mL} {pA pB : mA} (h : mst f0 g n p kd lb lr pt True m1 fs iv ar iw aw) (hno : noN fs → g = f0) (hfp : fs.length < p) {q : Nat} (hq : q < p) (l2 : Int32) {S : Int32 → mI → mA → Option (Int32 × mI × mA)} : tOut f0 n q iv ar la pA pB iw aw (mX9_readBind iv ar la pA pB) (fun K => ob (ob (mX12_take 0 9 iw aw) (fun r23 iv23 ar23 => ob (mX12_pushFrame (-1) r23 0 iv23 ar23) (fun _ iv31 ar31 => some ((-1), iv31, ar31)))) (fun r41 iv41 ar41 => if r41 < 0 then K l2 iv41 ar41 else if (iv41 24) = 0 then ob (S r41 iv41 ar41) (fun r61 iv61 ar61 => K r61 iv61 ar61) else K l2 iv41 ar41)) := by
  have hrd := h.1
  have hp2 : p ≤ 200 := Nat.le_trans hrd.2.1 hrd.1
  have hpg := h.2.2.1
  have hfl := h.2.2.2.2.1
  have hpush : ∀ (v : Int32) (iv4 : mI) (ar4 : mA), iv4 29 = nI fs.length → mX12_pushFrame (-1) v 0 iv4 ar4 = some (0, va_up iv4 29 (nI (fs.length + 1)), au (au (au (au ar4 25 fs.length (-1)) 26 fs.length v) 27 fs.length 0) 28 fs.length (-1)) := by
    intro v iv4 ar4 o
    unfold mX12_pushFrame
    rw [o, if_neg (by first | exact nI_in (by omega) (by omega) | exact nI_inn (by omega) (by omega)), if_neg (by first | exact nI_in (by omega) (by omega) | exact nI_inn (by omega) (by omega)), if_neg (by first | exact nI_in (by omega) (by omega) | exact nI_inn (by omega) (by omega)), if_neg (by first | exact nI_in (by omega) (by omega) | exact nI_inn (by omega) (by omega)), ncl (by omega), show nI fs.length + 1 = nI (fs.length + 1) from nadd _ 1]
  have fUp : ∀ (v : Int32) (iv4 : mI) (ar4 : mA), fU f0 iv4 ar4 (va_up iv4 29 (nI (fs.length + 1))) (au (au (au (au ar4 25 fs.length (-1)) 26 fs.length v) 27 fs.length 0) 28 fs.length (-1)) := fun v iv4 ar4 => ⟨fun k a b c d e => va_up_ne _ _ e, fun k a b c d e f g => by rw [au_ne _ g, au_ne _ f, au_ne _ e, au_ne _ d], fun k hk => ⟨rfl, rfl⟩, fun i hi => rfl⟩
  unfold mX9_readBind
  rcases take_both hrd 0 9 la pA pB with ⟨v, hpn, -, v1, v2, t1, t2⟩ | ⟨c, hcc, t1, t2⟩
  · obtain ⟨u, u1, u2, rfl⟩ := nI_btw (a := 0) (b := 9) (by decide) v1 v2 (by decide)
    obtain ⟨hrd2, hok2, hpg2, ⟨hc2, hr2, o1, o2⟩, ⟨b1, b2, b3⟩, z1, z2, z3⟩ := mst_take h hpn (nI u)
    have eC : mX9_push (nI g) (nI u) 1 (va_up (va_up iv 803 (nI u)) 802 (nI (p + 1))) ar la pA pB = some (0, va_up (va_up (va_up iv 803 (nI u)) 802 (nI (p + 1))) 906 (nI (fs.length + 1)), au (au (au (au ar 902 fs.length (nI g)) 903 fs.length (nI u)) 904 fs.length 1) 905 fs.length (-1), la, pA, pB) := by
      unfold mX9_push
      rw [o1, if_neg (show ¬ (200 : Int32) ≤ nI fs.length from nI_ge (show fs.length < 200 by omega) (by decide)), if_neg (by first | exact nI_in (by omega) (by omega) | exact nI_inn (by omega) (by omega)), if_neg (by first | exact nI_in (by omega) (by omega) | exact nI_inn (by omega) (by omega)), if_neg (by first | exact nI_in (by omega) (by omega) | exact nI_inn (by omega) (by omega)), if_neg (by first | exact nI_in (by omega) (by omega) | exact nI_inn (by omega) (by omega)), ncl (by omega), show nI fs.length + 1 = nI (fs.length + 1) from nadd _ 1]
    rw [t1, t2, obce, if_neg (show ¬ (1 : Int32) = 0 by decide)]
    unfold mX3_size mX8_taken
    rw [obce, obce, show (va_up (va_up iv 803 (nI u)) 802 (nI (p + 1))) 303 = nI g from hpg.1, show (va_up (va_up iv 803 (nI u)) 802 (nI (p + 1))) 803 = nI u from rfl, eC, obce]
    refine Or.inr (Or.inr ⟨l2, fs.length, va_up (va_up (va_up iv 803 (nI u)) 802 (nI (p + 1))) 906 (nI (fs.length + 1)), au (au (au (au ar 902 fs.length (nI g)) 903 fs.length (nI u)) 904 fs.length 1) 905 fs.length (-1), va_up (va_up (va_up iv 803 (nI u)) 802 (nI (p + 1))) 906 (nI (fs.length + 1)), au (au (au (au ar 902 fs.length (nI g)) 903 fs.length (nI u)) 904 fs.length 1) 905 fs.length (-1), _, _, rfl, ⟨by omega, Nat.lt_of_lt_of_le hq hrd.2.1⟩, rfl, fun K => ?_, ?_, fU_t (fU_take f0 iw aw (nI (p + 1))) (fUp (nI u) _ aw), Or.inr ⟨?_, g, p + 1, kd, lb, lr, pt, (u + 1, g, 1, 0), fs, by omega, ?_⟩⟩)
    · dsimp only
      rw [obe, hpush (nI u) _ aw o2, obe, obe, if_pos (show (-1 : Int32) < 0 by decide)]
    · refine fT_t (fT_take f0 iv ar (nI u) (nI (p + 1))) ⟨fun k a b c d e f => va_up_ne _ _ f, fun k a b c d e f g => by rw [au_ne _ g, au_ne _ f, au_ne _ e, au_ne _ d], fun k hk => ⟨rfl, rfl⟩, fun i hi => rfl⟩
    · unfold mX9_readLabel
      rw [show (va_up (va_up (va_up iv 803 (nI u)) 802 (nI (p + 1))) 906 (nI (fs.length + 1))) 906 = nI (fs.length + 1) from rfl, nsub1, if_neg (nI_pos (by omega)), if_neg (by first | exact nI_in (by omega) (by omega) | exact nI_inn (by omega) (by omega)), ncl (by omega), au_ne _ (by decide), au_ne _ (by decide), au_self, if_neg (show ¬ nI u = -1 by rw [nm1ne (by omega)]; exact id)]
    · refine ⟨rd_next hrd2 hrd2.2.1 rfl rfl rfl rfl rfl (by rw [au_ne _ (by decide), au_ne _ (by decide), au_ne _ (by decide), au_ne _ (by decide)]) (by rw [au_ne _ (by decide), au_ne _ (by decide), au_ne _ (by decide), au_ne _ (by decide)]), ⟨⟨u2, rfl, rfl, fun _ => rfl, fun h => absurd trivial h⟩, hok2⟩, ⟨hpg.1, hpg.2.1, hpg.2.2.1, fun k hk => ?_⟩, ⟨⟨⟨?_, ?_, ?_, ?_⟩, ?_⟩, ⟨⟨?_, ?_, fun h => absurd h (Nat.succ_ne_zero u)⟩, ?_⟩, rfl, rfl⟩, ⟨by rw [List.length_cons]; omega, b2, b3⟩, fun hN => hno (fun f hf => hN f (List.mem_cons_of_mem _ hf)), z1, z2, z3⟩
      · obtain ⟨a1, a2, a3⟩ := hpg.2.2.2 k hk
        refine ⟨a1, a2, fun w => a3 (fun f hf => w f (List.mem_cons_of_mem _ hf))⟩
      · first | rfl | (simp only [aur, reduceIte]; rfl) | (simp [aur]; done)
      · rw [nsub1]
        first | rfl | (simp only [aur, reduceIte]; rfl) | (simp [aur]; done)
      · first | rfl | (simp only [aur, reduceIte]; rfl) | (simp [aur]; done)
      · first | rfl | (simp only [aur, reduceIte]; rfl) | (simp [aur]; done)
      · refine stC_keep2 fs (fun i hi => ?_) hc2
        refine ⟨?_, ?_, ?_, ?_⟩ <;> first | rfl | exact au_ni _ (by omega) | (simp [aur, show ¬ i = fs.length by omega]; done)
      · rw [if_neg (Nat.lt_irrefl g)]
        first | rfl | (simp only [aur, reduceIte]; rfl) | (simp [aur]; done)
      · rw [nsub1]
        first | rfl | (simp only [aur, reduceIte]; rfl) | (simp [aur]; done)
      · refine stR_keep2 fs (fun i hi => ?_) hr2
        refine ⟨?_, ?_, ?_, ?_⟩ <;> first | rfl | exact au_ni _ (by omega) | (simp [aur, show ¬ i = fs.length by omega]; done)
  · rw [t1, t2, obce, if_pos rfl]
    refine Or.inl ⟨l2, _, _, _, _, rfl, fun K => ?_, ?_, fT_fail _ _ _ _ _, fU_t (fU_fail f0 iw aw c (nI p)) (fUp c _ aw)⟩
    · dsimp only
      rw [obe, hpush c (va_up (va_up iw 24 c) 2 (nI p)) aw h.2.2.2.1.2.2.2, obe, obe, if_pos (show (-1 : Int32) < 0 by decide)]
    · obtain ⟨c2, w2, a1, a2, a3, a4, a5, a6⟩ := flt_of (w := nI p) (iw := iw) hcc hpg.1 hpg.2.2.1 (show g ≤ 400 by omega)
      exact ⟨c2, w2, a1, a2, a3, a4, a5, a6⟩
/-- 1 to 7 -/
theorem node_turn {f0 g n p : Nat} {kd lb lr : Nat → Nat} {pt : Nat → Nat → Nat} {fs : List (Nat × Nat × Nat × Nat)} {iv : mI} {ar : mA} {iw : mI} {aw : mA} {la : mL} {pA pB : mA} (h : mst f0 g n p kd lb lr pt True m1 fs iv ar iw aw) (hno : noN fs → g = f0) (hfp : fs.length < p) (hgp : g < f0 + p) {q : Nat} (hq : q < p) (l2 : Int32) {K : Nat} (hK : K ≤ 6) : tOut f0 n q iv ar la pA pB iw aw (mX9_readNode (nI K) iv ar la pA pB) (fun Q => ob (mX12_readWord_J90 (nI (K + 1)) (nI K) iw aw) (fun r41 iv41 ar41 => if r41 < 0 then Q l2 iv41 ar41 else if (iv41 24) = 0 then ob (mX12_settle r41 iv41 ar41) (fun r61 iv61 ar61 => Q r61 iv61 ar61) else Q l2 iv41 ar41)) := by
  have hp2 : p ≤ 200 := Nat.le_trans h.1.2.1 h.1.1
  have hfg := h.2.2.1.2.2.1
  have hf2 := h.2.2.2.2.1.2.1
  have hlt := okF_lt fs True h.2.1
  obtain ⟨ivN, arN, iwN, awN, d1, d2, f1, f2, hrd, hok, ⟨hc, hr, o1, o2⟩, ⟨z1, z2, z3⟩, hpg⟩ := node_made (la := la) (pA := pA) (pB := pB) h hgp hK
  refine tOut_t (Nat.le_refl q) f1 f2 ?_
  unfold mX9_readNode mX12_readWord_J90
  rw [d1, obce]
  -- with no parts: it is settled at once
  have leaf : K ≠ 4 → ∀ (iv4 : mI) (iw4 : mI) (p4 : Nat), p ≤ p4 → rd n p4 iv4 arN iw4 awN → (∀ k, k ≠ 802 → k ≠ 803 → iv4 k = ivN k) → (∀ k, k ≠ 23 → iw4 k = iwN k) → tOut f0 n q iv4 arN la pA pB iw4 awN (obc (mX9_settle (nI g) iv4 arN la pA pB) (fun _ iv70 ar70 la70 pA70 pB70 => some (1, iv70, ar70, la70, pA70, pB70))) (fun K => ob (mX12_settle (nI g) iw4 awN) (fun r61 iv61 ar61 => K r61 iv61 ar61)) := by
    intro hK4 iv4 iw4 p4 hp4 hrd4 k1 k2
    have hpg4 := hpg fs (fun k _ w => w) (fun h => absurd h hK4)
    refine settle_turn (t := False) (w := m1) ⟨hrd4, hok, ⟨?_, ?_, hpg4.2.2.1, hpg4.2.2.2⟩, ⟨hc, hr, ?_, ?_⟩, ⟨by omega, hf2, by omega⟩, ?_, ?_, ?_⟩ (Nat.lt_succ_self g) hno (show q < p4 by omega)
    · rw [k1 _ (by decide) (by decide)]; exact hpg4.1
    · rw [k2 _ (by decide)]; exact hpg4.2.1
    · rw [k1 _ (by decide) (by decide)]; exact o1
    · rw [k2 _ (by decide)]; exact o2
    · rw [k1 _ (by decide) (by decide)]; exact z1
    · rw [k1 _ (by decide) (by decide)]; exact z2
    · rw [k2 _ (by decide)]; exact z3
  -- with parts: it is put upon what is open
  have push : 4 ≤ K → ∀ (c : Nat) (iv4 : mI) (iw4 : mI) (p4 : Nat), 1 ≤ c → c ≤ 8 → (K = 4 → c = 2) → p ≤ p4 → rd n p4 iv4 arN iw4 awN → (∀ k, k ≠ 802 → k ≠ 803 → iv4 k = ivN k) → (∀ k, k ≠ 23 → iw4 k = iwN k) → tOut f0 n q iv4 arN la pA pB iw4 awN (obc (mX9_push (nI g) (-1) (nI c) iv4 arN la pA pB) (fun _ iv70 ar70 la70 pA70 pB70 => some (1, iv70, ar70, la70, pA70, pB70))) (fun K => ob (ob (mX12_pushFrame (nI g) (-1) (nI c) iw4 awN) (fun _ iv144 ar144 => ob (mX12_takeLabel iv144 ar144) (fun _ iv148 ar148 => some ((-1), iv148, ar148)))) (fun r41 iv41 ar41 => if r41 < 0 then K l2 iv41 ar41 else if (iv41 24) = 0 then ob (mX12_settle r41 iv41 ar41) (fun r61 iv61 ar61 => K r61 iv61 ar61) else K l2 iv41 ar41)) := by
    intro hK4 c iv4 iw4 p4 c1 c2 c3 hp4 hrd4 k1 k2
    have hpg4 := hpg ((0, g, c, 0) :: fs) (fun k _ w f hf => w f (List.mem_cons_of_mem _ hf)) (fun _ => ⟨_, List.mem_cons_self, rfl, rfl⟩)
    refine push_turn hrd4 ⟨⟨Nat.lt_succ_self g, hfg, c1, c2, by omega, ?_, hlt, fun hN => hno hN⟩, hok⟩ ⟨?_, ?_, hpg4.2.2.1, hpg4.2.2.2⟩ hc hr ?_ ?_ (by omega) hf2 (by omega) ?_ ?_ ?_ (show q < p4 by omega)
    · rw [va_up_self, va_up_self, va_up_self]
      by_cases e : K = 4
      · rw [if_pos e]
        exact Or.inl ⟨e, rfl, rfl, c3 e⟩
      · rw [if_neg e]
        exact Or.inr ⟨by omega, rfl, by decide⟩
    · rw [k1 _ (by decide) (by decide)]; exact hpg4.1
    · rw [k2 _ (by decide)]; exact hpg4.2.1
    · rw [k1 _ (by decide) (by decide)]; exact o1
    · rw [k2 _ (by decide)]; exact o2
    · rw [k1 _ (by decide) (by decide)]; exact z1
    · rw [k1 _ (by decide) (by decide)]; exact z2
    · rw [k2 _ (by decide)]; exact z3
  have h24 : iwN 24 = 0 := hrd.2.2.2.2.2.2.1
  have big : ∀ Q : Int32 → mI → mA → Option (Int32 × mI × mA), Q (nI g) iwN awN = Q (nI g) iwN awN := fun _ => rfl
  by_cases h4 : K < 4
  · have eR : ∀ Q : Int32 → mI → mA → Option (Int32 × mI × mA), ob (ob (mX12_newNode (nI K) 0 iw aw) (fun r91 iv91 ar91 => ob (mX12_resolve r91 iv91 ar91) (fun r97 iv97 ar97 => if 5 ≤ nI (K + 1) then if nI (K + 1) = 5 then mX12_readWord_J125 r91 2 iv97 ar97 else ob (mX12_take 0 8 iv97 ar97) (fun r122 iv122 ar122 => mX12_readWord_J125 r91 r122 iv122 ar122) else mX12_readWord_J125 r91 0 iv97 ar97))) (fun r41 iv41 ar41 => if r41 < 0 then Q l2 iv41 ar41 else if (iv41 24) = 0 then ob (mX12_settle r41 iv41 ar41) (fun r61 iv61 ar61 => Q r61 iv61 ar61) else Q l2 iv41 ar41) = ob (mX12_settle (nI g) iwN awN) (fun r61 iv61 ar61 => Q r61 iv61 ar61) := by
      intro Q
      rw [d2 (fun r91 iv97 ar97 => if 5 ≤ nI (K + 1) then if nI (K + 1) = 5 then mX12_readWord_J125 r91 2 iv97 ar97 else ob (mX12_take 0 8 iv97 ar97) (fun r122 iv122 ar122 => mX12_readWord_J125 r91 r122 iv122 ar122) else mX12_readWord_J125 r91 0 iv97 ar97)]
      rw [if_neg (show ¬ (5 : Int32) ≤ nI (K + 1) from nI_ge (show K + 1 < 5 by omega) (by decide))]
      unfold mX12_readWord_J125
      rw [if_pos (show (0 : Int32) ≤ 0 by decide), obe, if_neg (nI_pos (by omega)), if_pos h24]
    rw [funext eR, if_neg (show ¬ nI K = 4 from fun e => by have := (nI_eq (b := 4) (by omega) (by decide)).mp e; omega)]
    unfold mX9_readNode_J19
    rw [if_neg (show ¬ nI K = 5 from fun e => by have := (nI_eq (b := 5) (by omega) (by decide)).mp e; omega), if_neg (show ¬ nI K = 6 from fun e => by have := (nI_eq (b := 6) (by omega) (by decide)).mp e; omega)]
    unfold mX9_readNode_J54
    rw [if_pos (show (0 : Int32) ≤ 0 by decide)]
    exact leaf (by omega) ivN iwN p (Nat.le_refl p) hrd (fun _ _ _ => rfl) (fun _ _ => rfl)
  · by_cases e4 : K = 4
    · subst e4
      have eR : ∀ Q : Int32 → mI → mA → Option (Int32 × mI × mA), ob (ob (mX12_newNode (nI 4) 0 iw aw) (fun r91 iv91 ar91 => ob (mX12_resolve r91 iv91 ar91) (fun r97 iv97 ar97 => if 5 ≤ nI (4 + 1) then if nI (4 + 1) = 5 then mX12_readWord_J125 r91 2 iv97 ar97 else ob (mX12_take 0 8 iv97 ar97) (fun r122 iv122 ar122 => mX12_readWord_J125 r91 r122 iv122 ar122) else mX12_readWord_J125 r91 0 iv97 ar97))) (fun r41 iv41 ar41 => if r41 < 0 then Q l2 iv41 ar41 else if (iv41 24) = 0 then ob (mX12_settle r41 iv41 ar41) (fun r61 iv61 ar61 => Q r61 iv61 ar61) else Q l2 iv41 ar41) = ob (ob (mX12_pushFrame (nI g) (-1) (nI 2) iwN awN) (fun _ iv144 ar144 => ob (mX12_takeLabel iv144 ar144) (fun _ iv148 ar148 => some ((-1), iv148, ar148)))) (fun r41 iv41 ar41 => if r41 < 0 then Q l2 iv41 ar41 else if (iv41 24) = 0 then ob (mX12_settle r41 iv41 ar41) (fun r61 iv61 ar61 => Q r61 iv61 ar61) else Q l2 iv41 ar41) := by
        intro Q
        rw [d2 (fun r91 iv97 ar97 => if 5 ≤ nI (4 + 1) then if nI (4 + 1) = 5 then mX12_readWord_J125 r91 2 iv97 ar97 else ob (mX12_take 0 8 iv97 ar97) (fun r122 iv122 ar122 => mX12_readWord_J125 r91 r122 iv122 ar122) else mX12_readWord_J125 r91 0 iv97 ar97)]
        rw [if_pos (show (5 : Int32) ≤ nI (4 + 1) by decide), if_pos (show nI (4 + 1) = 5 by decide)]
        unfold mX12_readWord_J125
        rw [if_neg (show ¬ (2 : Int32) ≤ 0 by decide), if_pos h24]
        rfl
      rw [funext eR, if_pos (show nI 4 = 4 from rfl)]
      unfold mX9_readNode_J19
      rw [if_neg (show ¬ nI 4 = 5 by decide), if_neg (show ¬ nI 4 = 6 by decide)]
      unfold mX9_readNode_J54
      rw [if_neg (show ¬ (2 : Int32) ≤ 0 by decide)]
      exact push (by omega) 2 ivN iwN p (by omega) (by omega) (fun _ => rfl) (Nat.le_refl p) hrd (fun _ _ _ => rfl) (fun _ _ => rfl)
    · have eR0 : ∀ Q : Int32 → mI → mA → Option (Int32 × mI × mA), ob (ob (mX12_newNode (nI K) 0 iw aw) (fun r91 iv91 ar91 => ob (mX12_resolve r91 iv91 ar91) (fun r97 iv97 ar97 => if 5 ≤ nI (K + 1) then if nI (K + 1) = 5 then mX12_readWord_J125 r91 2 iv97 ar97 else ob (mX12_take 0 8 iv97 ar97) (fun r122 iv122 ar122 => mX12_readWord_J125 r91 r122 iv122 ar122) else mX12_readWord_J125 r91 0 iv97 ar97))) (fun r41 iv41 ar41 => if r41 < 0 then Q l2 iv41 ar41 else if (iv41 24) = 0 then ob (mX12_settle r41 iv41 ar41) (fun r61 iv61 ar61 => Q r61 iv61 ar61) else Q l2 iv41 ar41) = ob (ob (mX12_take 0 8 iwN awN) (fun r122 iv122 ar122 => mX12_readWord_J125 (nI g) r122 iv122 ar122)) (fun r41 iv41 ar41 => if r41 < 0 then Q l2 iv41 ar41 else if (iv41 24) = 0 then ob (mX12_settle r41 iv41 ar41) (fun r61 iv61 ar61 => Q r61 iv61 ar61) else Q l2 iv41 ar41) := by
        intro Q
        rw [d2 (fun r91 iv97 ar97 => if 5 ≤ nI (K + 1) then if nI (K + 1) = 5 then mX12_readWord_J125 r91 2 iv97 ar97 else ob (mX12_take 0 8 iv97 ar97) (fun r122 iv122 ar122 => mX12_readWord_J125 r91 r122 iv122 ar122) else mX12_readWord_J125 r91 0 iv97 ar97)]
        rw [if_pos (show (5 : Int32) ≤ nI (K + 1) from nI_le (show 5 ≤ K + 1 by omega) (by omega)), if_neg (show ¬ nI (K + 1) = 5 from fun e => by have := (nI_eq (b := 5) (by omega) (by decide)).mp e; omega)]
      rw [funext eR0]
      rw [if_neg (show ¬ nI K = 4 from fun e => by have := (nI_eq (b := 4) (by omega) (by decide)).mp e; omega)]
      have eJ : mX9_readNode_J19 (nI K) (nI g) 0 ivN arN la pA pB = mX9_readNode_J31 (nI g) ivN arN la pA pB := by
        unfold mX9_readNode_J19
        by_cases e5 : K = 5
        · subst e5
          rw [if_pos (show nI 5 = 5 from rfl)]
        · have e6 : K = 6 := by omega
          subst e6
          rw [if_neg (show ¬ nI 6 = 5 by decide), if_pos (show nI 6 = 6 from rfl)]
      rw [eJ]
      unfold mX9_readNode_J31
      rcases take_both hrd 0 8 la pA pB with ⟨v, hpn, -, v1, v2, t1, t2⟩ | ⟨c, hcc, t1, t2⟩
      · obtain ⟨j, j1, j2, rfl⟩ := nI_btw (a := 0) (b := 8) (by decide) v1 v2 (by decide)
        have hrd4 : rd n (p + 1) (va_up (va_up ivN 803 (nI j)) 802 (nI (p + 1))) arN (va_up iwN 23 (nI (p + 1))) awN := rd_next hrd (by omega) rfl rfl rfl rfl rfl rfl rfl
        rw [t1, t2, obce, if_neg (show ¬ (1 : Int32) = 0 by decide)]
        unfold mX8_taken
        rw [obce, show (va_up (va_up ivN 803 (nI j)) 802 (nI (p + 1))) 803 = nI j from rfl]
        refine tOut_t (Nat.le_refl q) (fT_take f0 ivN arN (nI j) (nI (p + 1))) (fU_take f0 iwN awN (nI (p + 1))) ?_
        unfold mX9_readNode_J54
        have k1 : ∀ k, k ≠ 802 → k ≠ 803 → (va_up (va_up ivN 803 (nI j)) 802 (nI (p + 1))) k = ivN k := fun k a b => by rw [va_up_ne _ _ a, va_up_ne _ _ b]
        have k2 : ∀ k, k ≠ 23 → (va_up iwN 23 (nI (p + 1))) k = iwN k := fun k a => va_up_ne _ _ a
        by_cases ej : j = 0
        · subst ej
          rw [if_pos (show nI 0 ≤ (0 : Int32) by decide)]
          have eR : ∀ Q : Int32 → mI → mA → Option (Int32 × mI × mA), ob (ob (some (nI 0, va_up iwN 23 (nI (p + 1)), awN)) (fun r122 iv122 ar122 => mX12_readWord_J125 (nI g) r122 iv122 ar122)) (fun r41 iv41 ar41 => if r41 < 0 then Q l2 iv41 ar41 else if (iv41 24) = 0 then ob (mX12_settle r41 iv41 ar41) (fun r61 iv61 ar61 => Q r61 iv61 ar61) else Q l2 iv41 ar41) = ob (mX12_settle (nI g) (va_up iwN 23 (nI (p + 1))) awN) (fun r61 iv61 ar61 => Q r61 iv61 ar61) := by
            intro Q
            rw [obe]
            unfold mX12_readWord_J125
            rw [if_pos (show nI 0 ≤ (0 : Int32) by decide), obe, if_neg (nI_pos (by omega)), if_pos (show (va_up iwN 23 (nI (p + 1))) 24 = 0 from h24)]
          rw [funext eR]
          exact leaf e4 _ _ (p + 1) (by omega) hrd4 k1 k2
        · rw [if_neg (show ¬ nI j ≤ (0 : Int32) from nI_ge (show 0 < j by omega) (by omega))]
          have eR : ∀ Q : Int32 → mI → mA → Option (Int32 × mI × mA), ob (ob (some (nI j, va_up iwN 23 (nI (p + 1)), awN)) (fun r122 iv122 ar122 => mX12_readWord_J125 (nI g) r122 iv122 ar122)) (fun r41 iv41 ar41 => if r41 < 0 then Q l2 iv41 ar41 else if (iv41 24) = 0 then ob (mX12_settle r41 iv41 ar41) (fun r61 iv61 ar61 => Q r61 iv61 ar61) else Q l2 iv41 ar41) = ob (ob (mX12_pushFrame (nI g) (-1) (nI j) (va_up iwN 23 (nI (p + 1))) awN) (fun _ iv144 ar144 => ob (mX12_takeLabel iv144 ar144) (fun _ iv148 ar148 => some ((-1), iv148, ar148)))) (fun r41 iv41 ar41 => if r41 < 0 then Q l2 iv41 ar41 else if (iv41 24) = 0 then ob (mX12_settle r41 iv41 ar41) (fun r61 iv61 ar61 => Q r61 iv61 ar61) else Q l2 iv41 ar41) := by
            intro Q
            rw [obe]
            unfold mX12_readWord_J125
            rw [if_neg (show ¬ nI j ≤ (0 : Int32) from nI_ge (show 0 < j by omega) (by omega)), if_pos (show (va_up iwN 23 (nI (p + 1))) 24 = 0 from h24)]
          rw [funext eR]
          exact push (by omega) j _ _ (p + 1) (by omega) j2 (fun e => absurd e e4) (by omega) hrd4 k1 k2
      · rw [t1, t2, obce, if_pos rfl]
        refine Or.inl ⟨l2, _, _, _, _, rfl, fun K => ?_, flt_of hcc (hpg ((0, g, 2, 0) :: fs) (fun k _ w f hf => w f (List.mem_cons_of_mem _ hf)) (fun _ => ⟨_, List.mem_cons_self, rfl, rfl⟩)).1 (by omega) (by omega), fT_fail _ _ _ _ _, fU_fail _ _ _ _ _⟩
        dsimp only
        rw [obe]
        unfold mX12_readWord_J125
        rw [if_pos (show c ≤ 0 by rcases hcc with rfl | rfl <;> decide), obe, if_neg (nI_pos (by omega)), if_neg (show ¬ (va_up (va_up iwN 24 c) 2 (nI p)) 24 = 0 from mc0 hcc)]
