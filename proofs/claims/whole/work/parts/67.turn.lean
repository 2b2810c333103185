theorem okF_no {f0 g : Nat} {kd lb lr : Nat → Nat} : ∀ (fs : List (Nat × Nat × Nat × Nat)), okF f0 g kd lb lr True fs → noN fs → ∀ f, f ∈ fs → f.2.1 = g
  | [], _, _, f, hf => by cases hf
  | (0, x, lf, l) :: fs, _, hn, f, hf => absurd rfl (hn _ List.mem_cons_self)
  | (v + 1, x, lf, l) :: fs, ⟨⟨_, _, _, h4, _⟩, h7⟩, hn, f, hf => by
    rcases List.mem_cons.mp hf with rfl | hf
    · exact h4 trivial
    · exact okF_no fs h7 (fun a ha => hn a (List.mem_cons_of_mem _ ha)) f hf
theorem find_both {f0 g : Nat} {kd lb lr : Nat → Nat} {w l1 k1 : Int32} {iv : mI} {ar : mA} {iw : mI} {aw : mA} {la : mL} {pA pB : mA} {u : Nat} (hu : u ≤ 9) (h8 : iv 803 = nI u) : ∀ (fs : List (Nat × Nat × Nat × Nat)) (t : Prop) (n1 n2 : Nat), fs.length < n1 → fs.length < n2 → fs.length ≤ 200 → okF f0 g kd lb lr t fs → stC ar fs → stR g w aw fs →
    (mX9_readStand_L22 n1 l1 (nI fs.length - 1) iv ar la pA pB = mX9_readStand_J48 l1 (-1) iv ar la pA pB ∧ mX12_readName_L24 n2 k1 (nI u) (nI fs.length - 1) iw aw = mX12_readName_J44 k1 (-1) iw aw) ∨
    (∃ i x lf l, i < fs.length ∧ (u + 1, x, lf, l) ∈ fs ∧ x ≤ g ∧ ar 902 i = nI x ∧ aw 25 i = (if x < g then nI x else w) ∧ mX9_readStand_L22 n1 l1 (nI fs.length - 1) iv ar la pA pB = mX9_readStand_J48 l1 (nI i) iv ar la pA pB ∧ mX12_readName_L24 n2 k1 (nI u) (nI fs.length - 1) iw aw = mX12_readName_J44 k1 (nI i) iw aw)
  | [], t, n1, n2, hn1, hn2, _, _, _, _ => by
    obtain ⟨n1, rfl⟩ : ∃ k, n1 = k + 1 := ⟨n1 - 1, by omega⟩
    obtain ⟨n2, rfl⟩ : ∃ k, n2 = k + 1 := ⟨n2 - 1, by omega⟩
    refine Or.inl ⟨?_, ?_⟩
    · unfold mX9_readStand_L22
      rw [if_pos (show nI ([] : List (Nat × Nat × Nat × Nat)).length - 1 < 0 by decide)]
      rfl
    · unfold mX12_readName_L24
      rw [if_pos (show nI ([] : List (Nat × Nat × Nat × Nat)).length - 1 < 0 by decide)]
      rfl
  | (nm, x, lf, l) :: fs, t, n1, n2, hn1, hn2, hl, hok, ⟨⟨c1, c2, c3, c4⟩, hc⟩, ⟨⟨r1, r2, r3⟩, hr⟩ => by
    rw [List.length_cons] at *
    obtain ⟨n1, rfl⟩ : ∃ k, n1 = k + 1 := ⟨n1 - 1, by omega⟩
    obtain ⟨n2, rfl⟩ : ∃ k, n2 = k + 1 := ⟨n2 - 1, by omega⟩
    have hnm : ∃ t2, okF f0 g kd lb lr t2 fs ∧ nm ≤ 10 ∧ x ≤ g := by
      cases nm with
      | zero => exact ⟨False, hok.2, by omega, Nat.le_of_lt hok.1.1⟩
      | succ v =>
        obtain ⟨⟨a1, a2, a3, a4, a5⟩, a6⟩ := hok
        refine ⟨t, a6, by omega, ?_⟩
        by_cases ht : t
        · exact Nat.le_of_eq (a4 ht)
        · exact Nat.le_of_lt (a5 ht)
    obtain ⟨t2, hok2, hnm2, hxg⟩ := hnm
    have eC : mX9_readStand_L22 (n1 + 1) l1 (nI (fs.length + 1) - 1) iv ar la pA pB = if nI nm - 1 = nI u then mX9_readStand_J48 l1 (nI fs.length) iv ar la pA pB else mX9_readStand_L22 n1 l1 (nI fs.length - 1) iv ar la pA pB := by
      conv => lhs; unfold mX9_readStand_L22
      rw [nsub1, if_neg (nI_pos (by omega)), if_neg (by first | exact nI_in (by omega) (by omega) | exact nI_inn (by omega) (by omega)), ncl (by omega)]
      unfold mX8_taken
      rw [obce, c2, h8, pm1]
    have eR : mX12_readName_L24 (n2 + 1) k1 (nI u) (nI (fs.length + 1) - 1) iw aw = if nI nm - 1 = nI u then mX12_readName_J44 k1 (nI fs.length) iw aw else mX12_readName_L24 n2 k1 (nI u) (nI fs.length - 1) iw aw := by
      conv => lhs; unfold mX12_readName_L24
      rw [nsub1, if_neg (nI_pos (by omega)), if_neg (by first | exact nI_in (by omega) (by omega) | exact nI_inn (by omega) (by omega)), ncl (by omega), r2, pm1]
    rw [eC, eR]
    by_cases e : nI nm - 1 = nI u
    · rw [if_pos e, if_pos e]
      have e2 : nm = u + 1 := by
        cases nm with
        | zero => exact absurd (show nI u = -1 by rw [← e]; decide) (by rw [nm1ne (by omega)]; exact id)
        | succ v =>
          rw [nsub1] at e
          rw [(nI_eq (by omega) (by omega)).mp e]
      subst e2
      exact Or.inr ⟨fs.length, x, lf, l, by omega, List.mem_cons_self, hxg, c1, r1, rfl, rfl⟩
    · rw [if_neg e, if_neg e]
      rcases find_both hu h8 fs t2 n1 n2 (by omega) (by omega) (by omega) hok2 hc hr with h | ⟨i, x2, lf2, l2, h1, h2, h3, h4, h5, h6, h7⟩
      · exact Or.inl h
      · exact Or.inr ⟨i, x2, lf2, l2, by omega, List.mem_cons_of_mem _ h2, h3, h4, h5, h6, h7⟩
theorem tOut_01 {f0 n p : Nat} {iv : mI} {ar : mA} {la : mL} {pA pB : mA} {iw : mI} {aw : mA} {C : Option (Int32 × mI × mA × mL × mA × mA)} {RW : (Int32 → mI → mA → Option (Int32 × mI × mA)) → Option (Int32 × mI × mA)} (h : tOut f0 n p iv ar la pA pB iw aw C RW) : tOut f0 n p iv ar la pA pB iw aw (obc C (fun r38 iv38 ar38 la38 pA38 pB38 => if r38 = 0 ∨ r38 = 1 then some (r38, iv38, ar38, la38, pA38, pB38) else none)) RW := by
  have e : obc C (fun r38 iv38 ar38 la38 pA38 pB38 => if r38 = 0 ∨ r38 = 1 then some (r38, iv38, ar38, la38, pA38, pB38) else none) = C := by
    rcases h with ⟨x, iv2, ar2, iw2, aw2, a1, -⟩ | ⟨g, p3, kd, lb, lr, pt, iv2, ar2, iw2, aw2, a1, -⟩ | ⟨x, m, ivm, arm, iv2, ar2, iw2, aw2, a1, -⟩ <;> rw [a1] <;> rfl
  rw [e]
  exact h
theorem fT_fail (f0 : Nat) (iv : mI) (ar : mA) (a b : Int32) : fT f0 iv ar (va_up (va_up iv 804 a) 805 b) ar := ⟨fun k _ _ _ h4 h5 _ => by rw [va_up_ne _ _ h5, va_up_ne _ _ h4], fun _ _ _ _ _ _ _ _ => rfl, fun _ _ => ⟨rfl, rfl⟩, fun _ _ => rfl⟩
theorem fT_take (f0 : Nat) (iv : mI) (ar : mA) (a b : Int32) : fT f0 iv ar (va_up (va_up iv 803 a) 802 b) ar := ⟨fun k _ h2 h3 _ _ _ => by rw [va_up_ne _ _ h2, va_up_ne _ _ h3], fun _ _ _ _ _ _ _ _ => rfl, fun _ _ => ⟨rfl, rfl⟩, fun _ _ => rfl⟩
theorem fU_fail (f0 : Nat) (iv : mI) (ar : mA) (a b : Int32) : fU f0 iv ar (va_up (va_up iv 24 a) 2 b) ar := ⟨fun k _ _ h3 h4 _ => by rw [va_up_ne _ _ h4, va_up_ne _ _ h3], fun _ _ _ _ _ _ _ _ => rfl, fun _ _ => ⟨rfl, rfl⟩, fun _ _ => rfl⟩
theorem fU_take (f0 : Nat) (iv : mI) (ar : mA) (b : Int32) : fU f0 iv ar (va_up iv 23 b) ar := ⟨fun k _ h2 _ _ _ => by rw [va_up_ne _ _ h2], fun _ _ _ _ _ _ _ _ => rfl, fun _ _ => ⟨rfl, rfl⟩, fun _ _ => rfl⟩
theorem flt_of {f0 g : Nat} {c : Int32} (hcc : c = m11 ∨ c = m12) {iv : mI} {iw : mI} {w : Int32} (h1 : iv 303 = nI g) (h2 : f0 ≤ g) (h3 : g ≤ 400) : flt f0 (va_up (va_up iv 804 c) 805 w) (va_up (va_up iw 24 c) 2 w) := by
  refine ⟨c, w, ?_, rfl, rfl, rfl, rfl, g, h2, h3, h1⟩
  rcases hcc with h | h
  · exact Or.inl h
  · exact Or.inr (Or.inl h)
/-- after a number is taken -/
theorem mst_take {f0 g n p : Nat} {kd lb lr : Nat → Nat} {pt : Nat → Nat → Nat} {t : Prop} {w : Int32} {fs : List (Nat × Nat × Nat × Nat)} {iv : mI} {ar : mA} {iw : mI} {aw : mA} (h : mst f0 g n p kd lb lr pt t w fs iv ar iw aw) (hp : p < n) (v : Int32) : mst f0 g n (p + 1) kd lb lr pt t w fs (va_up (va_up iv 803 v) 802 (nI (p + 1))) ar (va_up iw 23 (nI (p + 1))) aw := by
  obtain ⟨hrd, hok, hpg, ⟨hc, hr, o1, o2⟩, ⟨b1, b2, b3⟩, z1, z2, z3⟩ := h
  exact ⟨rd_next hrd (by omega) rfl rfl rfl rfl rfl rfl rfl, hok, ⟨hpg.1, hpg.2.1, hpg.2.2⟩, ⟨hc, hr, o1, o2⟩, ⟨by omega, b2, by omega⟩, z1, z2, z3⟩
/-- 9 v -/
theorem stand_turn {f0 g n p : Nat} {kd lb lr : Nat → Nat} {pt : Nat → Nat → Nat} {fs : List (Nat × Nat × Nat × Nat)} {iv : mI} {ar : mA} {iw : mI} {aw : mA} {la : mL} {pA pB : mA} (h : mst f0 g n p kd lb lr pt True m1 fs iv ar iw aw) {q : Nat} (hq : q < p) (l1 l2 : Int32) : tOut f0 n q iv ar la pA pB iw aw (mX9_readStand l1 iv ar la pA pB) (fun K => ob (ob (mX12_readName l1 iw aw) (fun r44 iv44 ar44 => some (r44, iv44, ar44))) (fun r41 iv41 ar41 => if r41 < 0 then K l2 iv41 ar41 else if (iv41 24) = 0 then ob (mX12_settle r41 iv41 ar41) (fun r61 iv61 ar61 => K r61 iv61 ar61) else K l2 iv41 ar41)) := by
  obtain ⟨F, hF, hFF⟩ : ∃ F, bigF = F + 1 ∧ 5000 < F := ⟨999999, rfl, by omega⟩
  have hrd := h.1
  have hp2 : p ≤ 200 := Nat.le_trans hrd.2.1 hrd.1
  have hpg := h.2.2.1
  have hfl := h.2.2.2.2.1
  unfold mX9_readStand mX12_readName
  rcases take_both hrd 0 9 la pA pB with ⟨v, hpn, -, v1, v2, t1, t2⟩ | ⟨c, hcc, t1, t2⟩
  · obtain ⟨u, u1, u2, rfl⟩ := nI_btw (a := 0) (b := 9) (by decide) v1 v2 (by decide)
    have h2 := mst_take h hpn (nI u)
    obtain ⟨hrd2, hok2, hpg2, ⟨hc2, hr2, o1, o2⟩, ⟨b1, b2, b3⟩, z1, z2, z3⟩ := id h2
    rw [t1, t2, obce, obe, if_neg (show ¬ (1 : Int32) = 0 by decide), if_pos (show (va_up iw 23 (nI (p + 1))) 24 = 0 from hrd.2.2.2.2.2.2.1), o1, o2]
    refine tOut_t (Nat.le_refl _) (fT_take f0 iv ar (nI u) (nI (p + 1))) (fU_take f0 iw aw (nI (p + 1))) ?_
    have hfail : ∀ (i : Int32), mX9_readStand_J48 l1 i (va_up (va_up iv 803 (nI u)) 802 (nI (p + 1))) ar la pA pB = some (0, va_up (va_up (va_up (va_up iv 803 (nI u)) 802 (nI (p + 1))) 804 m13) 805 l1, ar, la, pA, pB) → mX12_readName_J44 l1 i (va_up iw 23 (nI (p + 1))) aw = some (m13, va_up (va_up (va_up iw 23 (nI (p + 1))) 24 m13) 2 l1, aw) → ∀ n1 n2, mX9_readStand_L22 n1 l1 (nI fs.length - 1) (va_up (va_up iv 803 (nI u)) 802 (nI (p + 1))) ar la pA pB = mX9_readStand_J48 l1 i (va_up (va_up iv 803 (nI u)) 802 (nI (p + 1))) ar la pA pB → mX12_readName_L24 n2 l1 (nI u) (nI fs.length - 1) (va_up iw 23 (nI (p + 1))) aw = mX12_readName_J44 l1 i (va_up iw 23 (nI (p + 1))) aw → tOut f0 n q (va_up (va_up iv 803 (nI u)) 802 (nI (p + 1))) ar la pA pB (va_up iw 23 (nI (p + 1))) aw (mX9_readStand_L22 n1 l1 (nI fs.length - 1) (va_up (va_up iv 803 (nI u)) 802 (nI (p + 1))) ar la pA pB) (fun K => ob (ob (mX12_readName_L24 n2 l1 (nI u) (nI fs.length - 1) (va_up iw 23 (nI (p + 1))) aw) (fun r44 iv44 ar44 => some (r44, iv44, ar44))) (fun r41 iv41 ar41 => if r41 < 0 then K l2 iv41 ar41 else if (iv41 24) = 0 then ob (mX12_settle r41 iv41 ar41) (fun r61 iv61 ar61 => K r61 iv61 ar61) else K l2 iv41 ar41)) := by
      intro i e1 e2 n1 n2 e3 e4
      rw [e3, e4, e1, e2]
      refine Or.inl ⟨l2, _, _, _, _, rfl, fun K => ?_, ⟨m13, l1, Or.inr (Or.inr (Or.inl rfl)), rfl, rfl, rfl, rfl, g, hpg.2.2.1, by omega, hpg.1⟩, fT_fail _ _ _ _ _, fU_fail _ _ _ _ _⟩
      dsimp only
      rw [obe, obe, if_pos (show m13 < 0 by decide)]
      rfl
    rcases find_both (g := g) (w := m1) (l1 := l1) (k1 := l1) (iw := va_up iw 23 (nI (p + 1))) (la := la) (pA := pA) (pB := pB) (iv := va_up (va_up iv 803 (nI u)) 802 (nI (p + 1))) u2 rfl fs True bigF bigF (by omega) (by omega) (by omega) hok2 hc2 hr2 with ⟨e1, e2⟩ | ⟨i, x, lf, l, i1, i2, i3, i4, i5, e1, e2⟩
    · refine hfail (-1) ?_ ?_ bigF bigF e1 e2
      · unfold mX9_readStand_J48 mX8_fail
        rw [if_pos (show (-1 : Int32) < 0 by decide)]
        rfl
      · unfold mX12_readName_J44 mX12_fail
        rw [if_pos (show (-1 : Int32) < 0 by decide)]
        rfl
    · by_cases ex : x < g
      · rw [if_pos ex] at i5
        have hno : noN fs → x = f0 := fun hN => by
          have := okF_no fs hok2 hN _ i2
          have : x = g := this
          omega
        obtain ⟨aw2, w1, w2, w3, w4⟩ := resolve_loop (v := nI x) (iw := va_up iw 23 (nI (p + 1))) fs aw bigF (by omega) (by omega) hok2 hr2
        have h3 : mst f0 g n (p + 1) kd lb lr pt True (nI x) fs (va_up (va_up iv 803 (nI u)) 802 (nI (p + 1))) ar (va_up iw 23 (nI (p + 1))) aw2 := by
          refine ⟨rd_next hrd2 hrd2.2.1 rfl rfl rfl rfl rfl rfl (w3 _ (by decide)), hok2, ⟨hpg2.1, hpg2.2.1, hpg2.2.2.1, fun k hk => ?_⟩, ⟨hc2, w2, o1, o2⟩, ⟨b1, b2, b3⟩, z1, z2, z3⟩
          rw [w3 4 (by decide), w3 5 (by decide), w3 6 (by decide)]
          exact hpg2.2.2.2 k hk
        have hs := settle_turn (la := la) (pA := pA) (pB := pB) h3 ex hno (show q < p + 1 by omega)
        have fU2 : fU f0 (va_up iw 23 (nI (p + 1))) aw (va_up iw 23 (nI (p + 1))) aw2 := ⟨fun _ _ _ _ _ _ => rfl, fun k a b c d e f g => w3 k d, fun k hk => by rw [w3 _ (by decide), w3 _ (by decide)]; exact ⟨rfl, rfl⟩, fun i hi => by rw [w3 _ (by decide)]⟩
        refine tOut_t (Nat.le_refl _) (fT_r _ _ _) fU2 ?_
        rw [e1, e2]
        have j1 : mX9_readStand_J48 l1 (nI i) (va_up (va_up iv 803 (nI u)) 802 (nI (p + 1))) ar la pA pB = obc (mX9_settle (nI x) (va_up (va_up iv 803 (nI u)) 802 (nI (p + 1))) ar la pA pB) (fun _ iv70 ar70 la70 pA70 pB70 => some (1, iv70, ar70, la70, pA70, pB70)) := by
          unfold mX9_readStand_J48 mX3_size
          rw [if_neg (nI_pos (by omega)), if_neg (by first | exact nI_in (by omega) (by omega) | exact nI_inn (by omega) (by omega)), obce, ncl (by omega), i4, show (va_up (va_up iv 803 (nI u)) 802 (nI (p + 1))) 303 = nI g from hpg.1, if_pos (nI_lt ex (by omega)), if_neg (by first | exact nI_in (by omega) (by omega) | exact nI_inn (by omega) (by omega))]
        have j2 : mX12_readName_J44 l1 (nI i) (va_up iw 23 (nI (p + 1))) aw = some (nI x, va_up iw 23 (nI (p + 1)), aw2) := by
          unfold mX12_readName_J44
          rw [if_neg (nI_pos (by omega)), if_neg (by first | exact nI_in (by omega) (by omega) | exact nI_inn (by omega) (by omega)), ncl (by omega), i5, if_pos (nI_pos' (by omega)), if_neg (by first | exact nI_in (by omega) (by omega) | exact nI_inn (by omega) (by omega))]
          unfold mX12_resolve
          rw [o2, w1, obe]
        rw [j1, j2]
        have j3 : ∀ K : Int32 → mI → mA → Option (Int32 × mI × mA), ob (ob (some (nI x, va_up iw 23 (nI (p + 1)), aw2)) (fun r44 iv44 ar44 => some (r44, iv44, ar44))) (fun r41 iv41 ar41 => if r41 < 0 then K l2 iv41 ar41 else if (iv41 24) = 0 then ob (mX12_settle r41 iv41 ar41) (fun r61 iv61 ar61 => K r61 iv61 ar61) else K l2 iv41 ar41) = ob (mX12_settle (nI x) (va_up iw 23 (nI (p + 1))) aw2) (fun r61 iv61 ar61 => K r61 iv61 ar61) := by
          intro K
          rw [obe, obe, if_neg (nI_pos (by omega)), if_pos (show (va_up iw 23 (nI (p + 1))) 24 = 0 from hrd.2.2.2.2.2.2.1)]
        rw [show (fun K : Int32 → mI → mA → Option (Int32 × mI × mA) => ob (ob (some (nI x, va_up iw 23 (nI (p + 1)), aw2)) (fun r44 iv44 ar44 => some (r44, iv44, ar44))) (fun r41 iv41 ar41 => if r41 < 0 then K l2 iv41 ar41 else if (iv41 24) = 0 then ob (mX12_settle r41 iv41 ar41) (fun r61 iv61 ar61 => K r61 iv61 ar61) else K l2 iv41 ar41)) = (fun K => ob (mX12_settle (nI x) (va_up iw 23 (nI (p + 1))) aw2) (fun r61 iv61 ar61 => K r61 iv61 ar61)) from funext j3]
        exact hs
      · rw [if_neg ex] at i5
        refine hfail (nI i) ?_ ?_ bigF bigF e1 e2
        · unfold mX9_readStand_J48 mX3_size mX8_fail
          rw [if_neg (nI_pos (by omega)), if_neg (by first | exact nI_in (by omega) (by omega) | exact nI_inn (by omega) (by omega)), obce, ncl (by omega), i4, show (va_up (va_up iv 803 (nI u)) 802 (nI (p + 1))) 303 = nI g from hpg.1, if_neg (nI_nlt (show g ≤ x by omega) (by omega))]
          rfl
        · unfold mX12_readName_J44 mX12_fail
          rw [if_neg (nI_pos (by omega)), if_neg (by first | exact nI_in (by omega) (by omega) | exact nI_inn (by omega) (by omega)), ncl (by omega), i5, if_neg (show ¬ (0 : Int32) ≤ m1 by decide)]
          rfl
  · rw [t1, t2, obce, obe, if_pos rfl, if_neg (show ¬ (va_up (va_up iw 24 c) 2 (nI p)) 24 = 0 from mc0 hcc)]
    refine Or.inl ⟨l2, _, _, _, _, rfl, fun K => ?_, flt_of hcc hpg.1 hpg.2.2.1 (by omega), fT_fail _ _ _ _ _, fU_fail _ _ _ _ _⟩
    dsimp only
    rw [obe, obe, if_pos (show (-1 : Int32) < 0 by decide)]
