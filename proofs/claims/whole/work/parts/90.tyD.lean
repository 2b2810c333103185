def ptS (pt : Nat → Nat → Nat) (g : Nat) (f : Nat → Nat) : Nat → Nat → Nat := fun x l => if x = g then f l else pt x l
theorem ptS_self (pt : Nat → Nat → Nat) (g : Nat) (f : Nat → Nat) (l : Nat) : ptS pt g f g l = f l := if_pos rfl
theorem ptS_ne (pt : Nat → Nat → Nat) {g : Nat} (f : Nat → Nat) {x : Nat} (h : x ≠ g) (l : Nat) : ptS pt g f x l = pt x l := if_neg h
theorem au_id (ar : mA) (k i : Nat) : au ar k i (ar k i) = ar := funext fun a => funext fun b => by
  rw [aur]
  by_cases e : a = k
  · rw [if_pos e]
    by_cases e2 : b = i
    · rw [if_pos e2, e, e2]
    · rw [if_neg e2, e]
  · rw [if_neg e]
/-- two united, in both -/
theorem uni_both {g : Nat} {kd lb : Nat → Nat} {pt : Nat → Nat → Nat} {iv : mI} {ar : mA} {la : mL} {pA pB : mA} {iw : mI} {aw : mA} (h : gAll g kd lb pt iv ar la iw aw) (h24 : iw 24 = 0) {a b : Nat} (ha : a < g) (hb : b < g) :
    ∃ (rz r : Int32) (g2 : Nat) (kd2 lb2 : Nat → Nat) (pt2 : Nat → Nat → Nat) (iv2 : mI) (ar2 : mA) (iw2 : mI) (aw2 : mA), mX0_join 0 (nI a) (nI b) iv ar la pA pB = some (rz, iv2, ar2, la, pA, pB) ∧ mX12_united (nI a) (nI b) iw aw = some (r, iw2, aw2) ∧ grow g kd lb pt g2 kd2 lb2 pt2 ∧ gAll g2 kd2 lb2 pt2 iv2 ar2 la iw2 aw2 ∧ fD iv ar iv2 ar2 ∧ fE iw aw iw2 aw2 ∧ iw2 2 = iw 2 ∧ ((∃ t, t < g2 ∧ rz = nI t ∧ r = nI t ∧ iw2 24 = 0 ∧ blw kd2 lb2 pt2 a t ∧ blw kd2 lb2 pt2 b t) ∨ (rz = m3 ∧ iw2 24 = m3)) := by
  obtain ⟨h1, h2, h3, h4, h5⟩ := h
  obtain ⟨rz, iv2, ar2, iw2, aw2, j1, j2, f1, f2, hE⟩ := sp_join (la := la) (pA := pA) (pB := pB) h2 h1 h3 h4 (h := 0) (by omega) ha hb
  have fD1 : fD iv ar iv2 ar2 := ⟨fun k a b c d => f1.1 k a b c, f1.2⟩
  have ho : ordI iv2 la := ordI_keep (f1.1 503 (by decide) (by decide) (by decide)) h5
  have j1' : mX0_join 0 (nI a) (nI b) iv ar la pA pB = some (rz, iv2, ar2, la, pA, pB) := j1
  have j2' : mX12_join 0 (nI a) (nI b) iw aw = some (rz, iw2, aw2) := j2
  have k24 : iw2 24 = iw 24 := f2.1 24 (by decide) (by decide) (by decide)
  have k2 : iw2 2 = iw 2 := f2.1 2 (by decide) (by decide) (by decide)
  have fE1 : ∀ w : Int32, fE iw aw (va_up iw2 24 w) aw2 := fun w => ⟨fun k a b c d e => by rw [va_up_ne _ _ e, f2.1 k b c d], fun k hk => f2.2 k (by omega)⟩
  rcases hE with ⟨rfl, c1, c2⟩ | ⟨n, r, th, ta, tb, P, rs, rfl, q1, q2, q3, q4, q5⟩
  · refine ⟨m3, 0, g, kd, lb, pt, iv2, ar2, va_up iw2 24 (-3), aw2, j1', ?_, grow_r h1, ⟨h1, h2, c1, ⟨c2.1, c2.2⟩, ho⟩, fD1, fE1 _, k2, Or.inr ⟨rfl, rfl⟩⟩
    unfold mX12_united
    rw [j2', obe, if_neg (show ¬ (0 : Int32) ≤ m3 by decide)]
  · have hrn : r < n := by
      rcases q1 with q | q
      · exact Nat.lt_of_lt_of_le (jsim_up h2 ha hb q).2 q2.1.1
      · exact q.2.1
    have hn := q2.1.2
    obtain ⟨u1, u2⟩ := upper h2 q2 q3 ha hb q1
    refine ⟨nI r, nI r, n, _, _, _, iv2, ar2, iw2, aw2, j1', ?_, grow_J q2, ⟨hn, q3, q4, q5, ho⟩, fD1, ⟨fun k a b c d e => f2.1 k b c d, fun k hk => f2.2 k (by omega)⟩, k2, Or.inl ⟨r, hrn, rfl, rfl, by rw [k24]; exact h24, u1, u2⟩⟩
    unfold mX12_united
    rw [j2', obe, if_pos (nI_pos' (by omega))]
section
variable {g0 : Nat} {kd0 lb0 : Nat → Nat} {g : Nat} {kd lb : Nat → Nat} {pt : Nat → Nat → Nat} {m : Nat} {T : TT} {ty va : Nat → Nat} {k : Nat} {iv : mI} {ar : mA} {la : mL} {pA pB : mA} {iw : mI} {aw : mA}
theorem ty21 (h : kAll g0 kd0 lb0 g kd lb pt m T ty va k iv ar la pB iw aw) (e : tWd T k = 21) (b : Int32) : dOut g kd lb pt T ty va k iv ar pA pB iw aw (mX2_typeOf (nI (tPl T k)) iv ar la pA pB) (mX12_typeDone (nI k) b iw aw) := by
  obtain ⟨h1, h2, h3⟩ := hw_of (pA := pA) h e
  obtain ⟨⟨hA, hG0⟩, ⟨hcl, hre, hk⟩, ⟨hg, h24⟩, hkid, hsc, hbd⟩ := id h
  obtain ⟨hn, t, ht0, hf1⟩ := (hA.2.2 k hk).1.1.2.2.1 (Or.inl e)
  obtain ⟨w1, w2⟩ := (hcl.2 k hk).1.2.1.1 (by omega)
  obtain ⟨t1, t2, t3⟩ := hkid 0 (by omega)
  obtain ⟨ht, hkt, hlt⟩ := hG0 t ht0
  have e0 : mX2_typeIn (nI (tPl T k)) 0 iv ar la pA pB = some (nI (ty (tIn T k 0)), iv, ar, la, pA, pB) := c_typeIn hA hcl hk (show 0 < tNk T k by omega) t2
  have hwd1 : mX6_wordB (nI (tPl T k) + 1) iv ar la pA pB = some (nI t, iv, ar, la, pA, pB) := by
    have := c_word1 (iv := iv) (ar := ar) (la := la) (pA := pA) (pB := pB) (p := tPl T k) (d := 1) w1
    rw [w2, hf1] at this
    exact this
  have a34 : aw 34 k = nI t := by rw [(hre k hk).1.2.2.1, hf1]
  have hkn := nI_in (c := k) (N := 200) (by omega) (by decide)
  have hg200 := hg.1
  obtain ⟨aw2, a1, a2, a3, a4, a5, a6⟩ := r_more (aw := aw) (K := 4) hg.2.2.2.1.1 hg.1 (by omega) h24
  have a1' : mX12_more 4 iw aw = if g < 200 then some (nI g, va_up iw 3 (nI (g + 1)), aw2) else some (0, va_up iw 24 m3, aw) := a1
  have c1' : mX3_make 4 iv ar la pA pB = if g < 200 then some (nI g, va_up iv 303 (nI (g + 1)), au (au ar 300 g (nI 4)) 301 g (nI 0), la, pA, pB) else some (m3, iv, ar, la, pA, pB) := c_make2 hg.2.2.1.1 hg.1
  rw [tof21 h1, tdn21 h3 h2, hwd1, obce, e0, obce, obc_id]
  unfold mX2_typeOfLambda
  rw [c1', a1']
  by_cases q : g < 200
  · rw [if_pos q, if_pos q, obce, obe, if_pos (show (va_up iw 3 (nI (g + 1))) 24 = 0 from h24), if_neg hkn, ncl (show k < 2147483648 by omega), a2 34 (by decide) (by decide) (by decide), a34]
    have s0 := c_setP (la := la) (pA := pA) (pB := pB) (g := g + 1) (y := g) (q := 0) (iv := va_up iv 303 (nI (g + 1))) (ar := au (au ar 300 g (nI 4)) 301 g (nI 0)) rfl (by omega) (by omega) (by omega) (nI t) (m := 0) (au_self _ _ _ _) (by omega)
    have s0' : mX3_setPart (nI g) 0 (nI t) (va_up iv 303 (nI (g + 1))) (au (au ar 300 g (nI 4)) 301 g (nI 0)) la pA pB = some (0, va_up iv 303 (nI (g + 1)), au (au (au (au ar 300 g (nI 4)) 301 g (nI 0)) 301 g (nI 1)) 302 (g * 8 + 0) (nI t), la, pA, pB) := s0
    have s1 := c_setP (la := la) (pA := pA) (pB := pB) (g := g + 1) (y := g) (q := 1) (iv := va_up iv 303 (nI (g + 1))) (ar := au (au (au (au ar 300 g (nI 4)) 301 g (nI 0)) 301 g (nI 1)) 302 (g * 8 + 0) (nI t)) rfl (by omega) (by omega) (by omega) (nI (ty (tIn T k 0))) (m := 1) (by rw [au_ne _ (by decide), au_self]) (by omega)
    have s1' : mX3_setPart (nI g) 1 (nI (ty (tIn T k 0))) (va_up iv 303 (nI (g + 1))) (au (au (au (au ar 300 g (nI 4)) 301 g (nI 0)) 301 g (nI 1)) 302 (g * 8 + 0) (nI t)) la pA pB = some (0, va_up iv 303 (nI (g + 1)), au (au (au (au (au (au ar 300 g (nI 4)) 301 g (nI 0)) 301 g (nI 1)) 302 (g * 8 + 0) (nI t)) 301 g (nI 3)) 302 (g * 8 + 1) (nI (ty (tIn T k 0))), la, pA, pB) := s1
    rw [s0', obce, s1', obce]
    unfold mX12_typeDone_J127
    have hre2 : tRe m T (au aw2 6 (8 * g) (nI t)) := by
      unfold tRe
      rw [au_ne _ (by decide), au_ne _ (by decide), au_ne _ (by decide), au_ne _ (by decide), au_ne _ (by decide), au_ne _ (by decide), au_ne _ (by decide), a2 32 (by decide) (by decide) (by decide), a2 33 (by decide) (by decide) (by decide), a2 34 (by decide) (by decide) (by decide), a2 35 (by decide) (by decide) (by decide), a2 38 (by decide) (by decide) (by decide), a2 36 (by decide) (by decide) (by decide), a2 37 (by decide) (by decide) (by decide)]
      exact hre
    have r0 : mX12_typeInside (nI k) 0 (va_up iw 3 (nI (g + 1))) (au aw2 6 (8 * g) (nI t)) = some (nI (ty (tIn T k 0)), va_up iw 3 (nI (g + 1)), au aw2 6 (8 * g) (nI t)) := r_tin hA hre2 hk (show 0 < tNk T k by omega) (by rw [au_ne _ (by decide), a2 54 (by decide) (by decide) (by decide)]; exact t3)
    rw [show (8 : Int32) * nI g = nI (8 * g) by rw [show (8 : Int32) = nI 8 from rfl, nmul], if_neg (by first | exact nI_in (by omega) (by omega) | exact nI_inn (by omega) (by omega)), ncl (show 8 * g < 2147483648 by omega), if_pos (show (va_up iw 3 (nI (g + 1))) 24 = 0 from h24), r0, obe, show nI (8 * g) + 1 = nI (8 * g + 1) from nadd _ 1, if_neg (nI_in (c := 8 * g + 1) (N := 3200) (by omega) (by decide)), ncl (show 8 * g + 1 < 2147483648 by omega)]
    refine ⟨nI g, nI g, g + 1, va_up kd g 4, va_up lb g 3, ptS pt g (fun l => if l = 0 then t else ty (tIn T k 0)), _, _, la, _, _, rfl, rfl, ⟨by omega, by omega, fun x hx => ⟨va_up_ne _ _ (by omega), va_up_ne _ _ (by omega), fun l => ptS_ne _ _ (by omega) l⟩⟩, ⟨by omega, fun x hx => ?_, ⟨rfl, fun x hx => ?_⟩, ⟨rfl, fun x hx => ?_⟩, ordI_keep rfl hg.2.2.2.2⟩, ⟨fun x a b c d => va_up_ne _ _ a, fun x a b c d e f => by rw [au_ne _ c, au_ne _ b, au_ne _ c, au_ne _ b, au_ne _ b, au_ne _ a]⟩, ⟨fun x a b c d e => va_up_ne _ _ b, fun x hx => by rw [au_ne _ (by omega), au_ne _ (by omega), a2 x (by omega) (by omega) (by omega)]⟩, Or.inl ⟨g, by omega, rfl, rfl, h24, rfl, (by unfold tyR; refine ⟨?_, ?_, ?_, ?_, ?_, ?_, ?_, ?_, ?_, ?_, ?_⟩ <;> intro hq <;> first | (exfalso; omega) | exact (⟨va_up_self _ _ _, by rw [ptS_self]; exact hf1, by rw [ptS_self]; rfl⟩))⟩⟩
    · by_cases ex : x = g
      · subst ex
        rw [va_up_self, va_up_self]
        refine ⟨by omega, by omega, fun hh => by omega, fun _ => rfl, fun l _ _ => ?_⟩
        rw [ptS_self]
        show (if l = 0 then t else ty (tIn T k 0)) < x + 1
        by_cases el : l = 0
        · rw [if_pos el]; omega
        · rw [if_neg el]; omega
      · rw [va_up_ne _ _ ex, va_up_ne _ _ ex]
        obtain ⟨x1, x2, x3, x4, x5⟩ := hg.2.1 x (by omega)
        exact ⟨x1, x2, x3, x4, fun l hl hb => by rw [ptS_ne _ _ ex]; exact Nat.lt_succ_of_lt (x5 l hl hb)⟩
    · by_cases ex : x = g
      · subst ex
        rw [va_up_self, va_up_self]
        refine ⟨by simp [aur], by simp [aur], fun l hl hb => ?_⟩
        rw [ptS_self]
        have hl2 : l = 0 ∨ l = 1 := by
          rcases (show l = 0 ∨ l = 1 ∨ l = 2 ∨ l = 3 ∨ l = 4 ∨ l = 5 ∨ l = 6 ∨ l = 7 by omega) with rfl | rfl | rfl | rfl | rfl | rfl | rfl | rfl
          · exact Or.inl rfl
          · exact Or.inr rfl
          all_goals exact absurd hb (by decide)
        rcases hl2 with rfl | rfl
        · rw [au_ni _ (by omega), au_ne _ (by decide), au_self]
          rfl
        · rw [au_self]
          rfl
      · rw [va_up_ne _ _ ex, va_up_ne _ _ ex]
        obtain ⟨x1, x2, x3⟩ := hg.2.2.1.2 x (by omega)
        refine ⟨by simp [aur, ex]; exact x1, by simp [aur, ex]; exact x2, fun l hl hb => ?_⟩
        rw [ptS_ne _ _ ex, au_ni _ (by omega), au_ne _ (by decide), au_ni _ (by omega)]
        exact x3 l hl hb
    · by_cases ex : x = g
      · subst ex
        rw [va_up_self, va_up_self]
        refine ⟨by rw [au_ne _ (by decide), au_ne _ (by decide), a4], by rw [au_ne _ (by decide), au_ne _ (by decide), a5]; rfl, fun l hl hb => ?_⟩
        rw [ptS_self]
        have hl2 : l = 0 ∨ l = 1 := by
          rcases (show l = 0 ∨ l = 1 ∨ l = 2 ∨ l = 3 ∨ l = 4 ∨ l = 5 ∨ l = 6 ∨ l = 7 by omega) with rfl | rfl | rfl | rfl | rfl | rfl | rfl | rfl
          · exact Or.inl rfl
          · exact Or.inr rfl
          all_goals exact absurd hb (by decide)
        rcases hl2 with rfl | rfl
        · rw [au_ni _ (by omega), Nat.add_zero, au_self]
          rfl
        · rw [au_self]
          rfl
      · rw [va_up_ne _ _ ex, va_up_ne _ _ ex]
        obtain ⟨x1, x2, x3⟩ := hg.2.2.2.1.2 x (by omega)
        refine ⟨by rw [au_ne _ (by decide), au_ne _ (by decide), (a3 x ex).1]; exact x1, by rw [au_ne _ (by decide), au_ne _ (by decide), (a3 x ex).2]; exact x2, fun l hl hb => ?_⟩
        rw [ptS_ne _ _ ex, au_ni _ (by omega), au_ni _ (by omega), a6 _ (by omega)]
        exact x3 l hl hb
  · rw [if_neg q, if_neg q, obce, obe, if_neg (show ¬ (va_up iw 24 m3) 24 = 0 from (show ¬ m3 = 0 by decide))]
    have sn : ∀ l v : Int32, mX3_setPart m3 l v iv ar la pA pB = some (0, iv, ar, la, pA, pB) := fun l v => by
      unfold mX3_setPart
      rw [if_pos (show m3 < 0 by decide)]
    rw [sn, obce, sn, obce]
    unfold mX12_typeDone_J127
    rw [show (8 : Int32) * 0 = nI 0 by decide, if_neg (nI_in (c := 0) (N := 3200) (by omega) (by decide)), if_neg (show ¬ (va_up iw 24 m3) 24 = 0 from (show ¬ m3 = 0 by decide)), show nI 0 + 1 = nI 1 by decide, if_neg (nI_in (c := 1) (N := 3200) (by omega) (by decide)), if_neg (nI_in (c := 1) (N := 3200) (by omega) (by decide)), au_id, au_id]
    exact ⟨m3, 0, g, kd, lb, pt, iv, ar, la, _, _, rfl, rfl, grow_r hg.1, ⟨hg.1, hg.2.1, hg.2.2.1, ⟨hg.2.2.2.1.1, hg.2.2.2.1.2⟩, hg.2.2.2.2⟩, fD_r _ _, ⟨fun x a b c d e => va_up_ne _ _ e, fun _ _ => rfl⟩, Or.inr (Or.inr ⟨rfl, rfl, rfl⟩)⟩
end
