/-- a term more, being term d of k -/
def tAdd (T : TT) (m w p : Nat) (f1 f2 : Int32) (nk : Nat) (ns : List Nat) (k d : Nat) : TT := (va_up (tWd T) m w, va_up (tPl T) m p, va_up (tF1 T) m f1, va_up (tF2 T) m f2, va_up (tNk T) m nk, va_up (va_up (tMn T) k (d + 1)) m 0, (fun a b => if a = k ∧ b = d then m else tIn T a b), tLa T, va_up (tSc T) m ns, va_up (tPa T) m k, va_up (tPo T) m d)
theorem tNs_eq {T T2 : TT} {x i y : Nat} (h1 : tWd T2 x = tWd T x) (h5 : tNk T2 x = tNk T x) (h6 : tSc T2 x = tSc T x) : tNs T2 x i y = tNs T x i y := by
  unfold tNs
  rw [h1, h5, h6]
theorem chC_keep {m : Nat} {pl pl2 : Nat → Nat} {pB pB2 : mA} (h : ∀ x, x < m → pl2 x = pl x ∧ pB2 3 (pl x) = pB 3 (pl x)) : ∀ (s : List Nat), chC m pl pB s → chC (m + 1) pl2 pB2 s ∧ hdI pl2 s = hdI pl s
  | [], _ => ⟨trivial, rfl⟩
  | x :: s, ⟨⟨h1, h2⟩, h3⟩ => by
    obtain ⟨a1, a2⟩ := chC_keep h s h3
    obtain ⟨b1, b2⟩ := h x h1
    exact ⟨⟨⟨by omega, by rw [b1, b2, a2]; exact h2⟩, a1⟩, by show nI (pl2 x) = nI (pl x); rw [b1]⟩
theorem chC_mem {m : Nat} {pl : Nat → Nat} {pB : mA} : ∀ (s : List Nat), chC m pl pB s → ∀ x, x ∈ s → x < m
  | [], _, x, hx => by cases hx
  | y :: s, ⟨⟨h1, _⟩, h3⟩, x, hx => by
    rcases List.mem_cons.mp hx with rfl | hx
    · exact h1
    · exact chC_mem s h3 x hx
/-- what the class writes as it enters a term -/
def entB (T : TT) (p m k d : Nat) (pB pB2 : mA) : Prop := pB2 0 = pB 0 ∧ pB2 4 = pB 4 ∧ (∀ x, pB2 2 x = if x = tPl T k then nI (d + 1) else if x = p then 0 else pB 2 x) ∧ (∀ y, pB2 1 y = if y = tPl T k * 9 + d then nI p else pB 1 y) ∧ (∀ x, pB2 3 x = if x = p ∧ (tWd T k = 21 ∨ tWd T k = 33 ∨ (tWd T k = 32 ∧ d + 1 < tNk T k)) then hdI (tPl T) (tSc T k) else pB 3 x)
theorem c_entT {p m k d : Nat} {T : TT} {os : List Nat} {iv : mI} {ar : mA} {la : mL} {pA pB : mA} (h7 : iv 707 = nI (os.length + 1)) (hL : os.length < 200) (hp : p < 200) (hpk : tPl T k < p) (h3 : ar 703 os.length = nI (tPl T k)) (h4 : ar 704 os.length = nI (tNk T k - d)) (h6 : ar 706 os.length = hdI (tPl T) (tSc T k)) (hw : pB 0 (tPl T k) = nI (tWd T k)) (hw2 : tWd T k ≤ 33) (h9 : tNk T k ≤ 9) (hd : d < tNk T k) (hmn : pB 2 (tPl T k) = nI d) :
    ∃ pB2, mX7_enter (nI p) iv ar la pA pB = some (hdI (va_up (tPl T) m p) (if tWd T k = 21 ∨ tWd T k = 33 ∨ (tWd T k = 32 ∧ d + 1 < tNk T k) then m :: tSc T k else tSc T k), iv, ar, la, pA, pB2) ∧ entB T p m k d pB pB2 ∨ (∃ x, x ∈ tSc T k ∧ x = m) := by
  by_cases hmem : ∃ x, x ∈ tSc T k ∧ x = m
  · exact ⟨pB, Or.inr hmem⟩
  have hhd : hdI (va_up (tPl T) m p) (tSc T k) = hdI (tPl T) (tSc T k) := by
    cases hs : tSc T k with
    | nil => rfl
    | cons x s =>
      have : x ≠ m := fun e => hmem ⟨x, by rw [hs]; exact List.mem_cons_self, e⟩
      show nI (va_up (tPl T) m p x) = nI (tPl T x)
      rw [va_up_ne _ _ this]
  have hb : nI (tPl T k) * 9 + nI d = nI (tPl T k * 9 + d) := by rw [show (9 : Int32) = nI 9 from rfl, nmul, nadd]
  have hadd : mX6_addB (nI p) iv ar la pA pB = some (0, iv, ar, la, pA, au pB 2 p 0) := by
    unfold mX6_addB
    rw [if_neg (nI_pos (by omega)), if_neg (show ¬ (200 : Int32) ≤ nI p from nI_ge hp (by decide)), if_neg (by first | exact nI_in (by omega) (by omega) | exact nI_inn (by omega) (by omega)), ncl (by omega)]
  have hkid : mX6_addKidB (nI (tPl T k)) (nI p) iv ar la pA (au pB 2 p 0) = some (0, iv, ar, la, pA, au (au (au pB 2 p 0) 1 (tPl T k * 9 + d) (nI p)) 2 (tPl T k) (nI (d + 1))) := by
    unfold mX6_addKidB
    rw [if_neg (nI_pos (by omega)), if_neg (show ¬ (200 : Int32) ≤ nI (tPl T k) from nI_ge (show tPl T k < 200 by omega) (by decide)), if_neg (by first | exact nI_in (by omega) (by omega) | exact nI_inn (by omega) (by omega)), ncl (by omega), au_ni _ (show tPl T k ≠ p by omega), hmn, if_neg (show ¬ (9 : Int32) ≤ nI d from nI_ge (show d < 9 by omega) (by decide)), if_neg (by first | exact nI_in (by omega) (by omega) | exact nI_inn (by omega) (by omega)), hb, if_neg (by first | exact nI_in (by omega) (by omega) | exact nI_inn (by omega) (by omega)), if_neg (by first | exact nI_in (by omega) (by omega) | exact nI_inn (by omega) (by omega)), if_neg (by first | exact nI_in (by omega) (by omega) | exact nI_inn (by omega) (by omega)), ncl (show tPl T k * 9 + d < 2147483648 by omega), au_ne _ (by decide), au_ni _ (show tPl T k ≠ p by omega), hmn, show nI d + 1 = nI (d + 1) from nadd _ 1]
  have hAr := c_around (la := la) (pA := pA) (pB := au (au (au pB 2 p 0) 1 (tPl T k * 9 + d) (nI p)) 2 (tPl T k) (nI (d + 1))) (T := T) (k := k) (m := m) h7 hL (show tPl T k < 200 by omega) h3 hw
  have hCa := c_isCase (la := la) (pA := pA) (pB := au (au (au pB 2 p 0) 1 (tPl T k * 9 + d) (nI p)) 2 (tPl T k) (nI (d + 1))) (T := T) (k := k) (m := m) h7 hL (show tPl T k < 200 by omega) h3 hw hw2 h4 h9
  have hout : ∀ x : Int32, mX6_setOuterB (nI p) x iv ar la pA (au (au (au pB 2 p 0) 1 (tPl T k * 9 + d) (nI p)) 2 (tPl T k) (nI (d + 1))) = some (0, iv, ar, la, pA, au (au (au (au pB 2 p 0) 1 (tPl T k * 9 + d) (nI p)) 2 (tPl T k) (nI (d + 1))) 3 p x) := by
    intro x
    unfold mX6_setOuterB
    rw [if_neg (nI_pos (by omega)), if_neg (show ¬ (200 : Int32) ≤ nI p from nI_ge hp (by decide)), if_neg (by first | exact nI_in (by omega) (by omega) | exact nI_inn (by omega) (by omega)), ncl (by omega)]
  have pre : mX7_enter (nI p) iv ar la pA pB = obc (mX7_wordAround iv ar la pA (au (au (au pB 2 p 0) 1 (tPl T k * 9 + d) (nI p)) 2 (tPl T k) (nI (d + 1)))) (fun r49 iv49 ar49 la49 pA49 pB49 => if r49 = 21 then obc (mX6_setOuterB (nI p) (hdI (tPl T) (tSc T k)) iv49 ar49 la49 pA49 pB49) (fun r78 iv78 ar78 la78 pA78 pB78 => some (nI p, iv78, ar78, la78, pA78, pB78)) else if r49 = 33 then obc (mX6_setOuterB (nI p) (hdI (tPl T) (tSc T k)) iv49 ar49 la49 pA49 pB49) (fun r78 iv78 ar78 la78 pA78 pB78 => some (nI p, iv78, ar78, la78, pA78, pB78)) else obc (mX7_isCase iv49 ar49 la49 pA49 pB49) (fun r66 iv66 ar66 la66 pA66 pB66 => if r66 = 0 then some (hdI (tPl T) (tSc T k), iv66, ar66, la66, pA66, pB66) else obc (mX6_setOuterB (nI p) (hdI (tPl T) (tSc T k)) iv66 ar66 la66 pA66 pB66) (fun r78 iv78 ar78 la78 pA78 pB78 => some (nI p, iv78, ar78, la78, pA78, pB78)))) := by
    unfold mX7_enter
    rw [hadd, obce, h7, nsub1, if_pos (show (0 : Int32) ≤ nI os.length from nI_pos' (by omega)), if_neg (by first | exact nI_in (by omega) (by omega) | exact nI_inn (by omega) (by omega)), if_neg (by first | exact nI_in (by omega) (by omega) | exact nI_inn (by omega) (by omega)), ncl (by omega), h3, h6, hkid, obce]
  rw [pre, hAr, obce]
  have bind : ∀ (hb : tWd T k = 21 ∨ tWd T k = 33 ∨ (tWd T k = 32 ∧ d + 1 < tNk T k)), some (nI p, iv, ar, la, pA, au (au (au (au pB 2 p 0) 1 (tPl T k * 9 + d) (nI p)) 2 (tPl T k) (nI (d + 1))) 3 p (hdI (tPl T) (tSc T k))) = some (hdI (va_up (tPl T) m p) (if tWd T k = 21 ∨ tWd T k = 33 ∨ (tWd T k = 32 ∧ d + 1 < tNk T k) then m :: tSc T k else tSc T k), iv, ar, la, pA, au (au (au (au pB 2 p 0) 1 (tPl T k * 9 + d) (nI p)) 2 (tPl T k) (nI (d + 1))) 3 p (hdI (tPl T) (tSc T k))) ∧ entB T p m k d pB (au (au (au (au pB 2 p 0) 1 (tPl T k * 9 + d) (nI p)) 2 (tPl T k) (nI (d + 1))) 3 p (hdI (tPl T) (tSc T k))) := by
    intro hb
    refine ⟨?_, rfl, rfl, fun x => ?_, fun y => ?_, fun x => ?_⟩
    · rw [if_pos hb]
      show _ = some (nI (va_up (tPl T) m p m), iv, ar, la, pA, _)
      rw [va_up_self]
    · rw [au_ne _ (by decide), aur, if_pos rfl, au_ne _ (by decide), aur, if_pos rfl]
    · rw [au_ne _ (by decide), au_ne _ (by decide), aur, if_pos rfl]
      rfl
    · rw [aur, if_pos rfl]
      by_cases e : x = p
      · rw [if_pos e, if_pos ⟨e, hb⟩]
      · rw [if_neg e, if_neg (fun h => e h.1)]
        rfl
  by_cases e1 : tWd T k = 21
  · rw [if_pos (show nI (tWd T k) = 21 by rw [e1]; rfl), hout, obce]
    exact ⟨_, Or.inl (bind (Or.inl e1))⟩
  · rw [if_neg (show ¬ nI (tWd T k) = 21 from fun h => e1 ((nI_eq (b := 21) (by omega) (by decide)).mp h))]
    by_cases e2 : tWd T k = 33
    · rw [if_pos (show nI (tWd T k) = 33 by rw [e2]; rfl), hout, obce]
      exact ⟨_, Or.inl (bind (Or.inr (Or.inl e2)))⟩
    · rw [if_neg (show ¬ nI (tWd T k) = 33 from fun h => e2 ((nI_eq (b := 33) (by omega) (by decide)).mp h)), hCa, obce]
      by_cases e3 : tWd T k = 32 ∧ d + 1 < tNk T k
      · rw [if_pos e3, if_neg (show ¬ (1 : Int32) = 0 by decide), hout, obce]
        exact ⟨_, Or.inl (bind (Or.inr (Or.inr e3)))⟩
      · have hb : ¬ (tWd T k = 21 ∨ tWd T k = 33 ∨ (tWd T k = 32 ∧ d + 1 < tNk T k)) := by omega
        rw [if_neg e3, if_pos rfl]
        refine ⟨au (au (au pB 2 p 0) 1 (tPl T k * 9 + d) (nI p)) 2 (tPl T k) (nI (d + 1)), Or.inl ⟨by rw [if_neg hb, hhd], rfl, rfl, fun x => ?_, fun y => ?_, fun x => ?_⟩⟩
        · rw [aur, if_pos rfl, au_ne _ (by decide), aur, if_pos rfl]
        · rw [au_ne _ (by decide), aur, if_pos rfl]
          rfl
        · rw [if_neg (fun h => hb h.2)]
          rfl
theorem tAdd_st {g : Nat} {kd lb : Nat → Nat} {m w p nk : Nat} {f1 f2 : Int32} {T : TT} {dn : Nat → Nat} {k : Nat} {os os2 : List Nat} (h : tSt g kd lb m T (k :: os)) (hk : k < m) (hd : dn k < tNk T k) (hmn : tMn T k = dn k) (hl : tLd T k (dn k) → tLa T k (dn k) < 8 ∧ (1 ≤ dn k → tLa T k (dn k - 1) < tLa T k (dn k))) (hO : hOK g kd lb w nk f1 f2 (tNs T k (dn k) m).length) (hp : p < 200) (h33 : tWd T k = 33 → w = 21) (ho : ∀ x, x ∈ k :: os → x ∈ os2) (ho2 : nk ≠ 0 → m ∈ os2) : tSt g kd lb (m + 1) (tAdd T m w p f1 f2 nk (tNs T k (dn k) m) k (dn k)) os2 := by
  have acc : ∀ x, x ≠ m → tWd (tAdd T m w p f1 f2 nk (tNs T k (dn k) m) k (dn k)) x = tWd T x ∧ tPl (tAdd T m w p f1 f2 nk (tNs T k (dn k) m) k (dn k)) x = tPl T x ∧ tF1 (tAdd T m w p f1 f2 nk (tNs T k (dn k) m) k (dn k)) x = tF1 T x ∧ tF2 (tAdd T m w p f1 f2 nk (tNs T k (dn k) m) k (dn k)) x = tF2 T x ∧ tNk (tAdd T m w p f1 f2 nk (tNs T k (dn k) m) k (dn k)) x = tNk T x ∧ tSc (tAdd T m w p f1 f2 nk (tNs T k (dn k) m) k (dn k)) x = tSc T x ∧ tPa (tAdd T m w p f1 f2 nk (tNs T k (dn k) m) k (dn k)) x = tPa T x ∧ tPo (tAdd T m w p f1 f2 nk (tNs T k (dn k) m) k (dn k)) x = tPo T x := fun x hx => ⟨va_up_ne _ _ hx, va_up_ne _ _ hx, va_up_ne _ _ hx, va_up_ne _ _ hx, va_up_ne _ _ hx, va_up_ne _ _ hx, va_up_ne _ _ hx, va_up_ne _ _ hx⟩
  have accm : tWd (tAdd T m w p f1 f2 nk (tNs T k (dn k) m) k (dn k)) m = w ∧ tPl (tAdd T m w p f1 f2 nk (tNs T k (dn k) m) k (dn k)) m = p ∧ tF1 (tAdd T m w p f1 f2 nk (tNs T k (dn k) m) k (dn k)) m = f1 ∧ tF2 (tAdd T m w p f1 f2 nk (tNs T k (dn k) m) k (dn k)) m = f2 ∧ tNk (tAdd T m w p f1 f2 nk (tNs T k (dn k) m) k (dn k)) m = nk ∧ tSc (tAdd T m w p f1 f2 nk (tNs T k (dn k) m) k (dn k)) m = tNs T k (dn k) m ∧ tPa (tAdd T m w p f1 f2 nk (tNs T k (dn k) m) k (dn k)) m = k ∧ tPo (tAdd T m w p f1 f2 nk (tNs T k (dn k) m) k (dn k)) m = dn k ∧ tMn (tAdd T m w p f1 f2 nk (tNs T k (dn k) m) k (dn k)) m = 0 := ⟨va_up_self _ _ _, va_up_self _ _ _, va_up_self _ _ _, va_up_self _ _ _, va_up_self _ _ _, va_up_self _ _ _, va_up_self _ _ _, va_up_self _ _ _, va_up_self _ _ _⟩
  intro x hx
  by_cases em : x = m
  · subst em
    obtain ⟨b1, b2, b3, b4, b5, b6, b7, b8, b9⟩ := accm
    rw [b1, b2, b3, b4, b5, b6, b9]
    refine ⟨⟨hO, ?_, hp⟩, ⟨fun hn => ?_, Nat.zero_le _⟩, fun i hi => absurd hi (Nat.not_lt_zero i)⟩
    · have hs := (h k hk).1.2.1
      unfold tNs
      by_cases e : tWd T k = 21 ∨ tWd T k = 33 ∨ (tWd T k = 32 ∧ dn k + 1 < tNk T k)
      · rw [if_pos e, List.length_cons]; omega
      · rw [if_neg e]; omega
    · by_cases e : nk = 0
      · exact e.symm
      · exact absurd (ho2 e) hn
  · obtain ⟨b1, b2, b3, b4, b5, b6, b7, b8⟩ := acc x em
    obtain ⟨⟨x1, x2, x3⟩, ⟨x4, x5⟩, x6⟩ := h x (by omega)
    have hLd : ∀ i, tLd (tAdd T m w p f1 f2 nk (tNs T k (dn k) m) k (dn k)) x i = tLd T x i := fun i => by
      unfold tLd
      rw [b1, b5]
    have hNs : ∀ i y, tNs (tAdd T m w p f1 f2 nk (tNs T k (dn k) m) k (dn k)) x i y = tNs T x i y := fun i y => tNs_eq b1 b5 b6
    rw [b1, b2, b3, b4, b5, b6]
    by_cases ek : x = k
    · subst ek
      have hmn2 : tMn (tAdd T m w p f1 f2 nk (tNs T x (dn x) m) x (dn x)) x = dn x + 1 := by
        show va_up (va_up (tMn T) x (dn x + 1)) m 0 x = dn x + 1
        rw [va_up_ne _ _ em, va_up_self]
      rw [hmn2]
      refine ⟨⟨x1, x2, x3⟩, ⟨fun hn => absurd (ho x List.mem_cons_self) hn, hd⟩, fun i hi => ?_⟩
      rw [hLd]
      by_cases ei : i = dn x
      · have hin : tIn (tAdd T m w p f1 f2 nk (tNs T x (dn x) m) x (dn x)) x i = m := by
          show (if x = x ∧ i = dn x then m else tIn T x i) = m
          rw [if_pos ⟨rfl, ei⟩]
        obtain ⟨c1, c2, c3, c4, c5, c6, c7, c8, c9⟩ := accm
        rw [hin, hNs, c1, c6, c7, c8, ei]
        exact ⟨⟨hk, Nat.lt_succ_self m, rfl, rfl⟩, rfl, hl, h33⟩
      · have hin : tIn (tAdd T m w p f1 f2 nk (tNs T x (dn x) m) x (dn x)) x i = tIn T x i := by
          show (if x = x ∧ i = dn x then m else tIn T x i) = tIn T x i
          rw [if_neg (fun h => ei h.2)]
        obtain ⟨⟨y1, y2, y3, y4⟩, y5, y6, y7⟩ := x6 i (by omega)
        obtain ⟨d1, d2, d3, d4, d5, d6, d7, d8⟩ := acc (tIn T x i) (by omega)
        rw [hin, hNs, d1, d6, d7, d8]
        exact ⟨⟨y1, by omega, y3, y4⟩, y5, y6, y7⟩
    · have hmn2 : tMn (tAdd T m w p f1 f2 nk (tNs T k (dn k) m) k (dn k)) x = tMn T x := by
        show va_up (va_up (tMn T) k (dn k + 1)) m 0 x = tMn T x
        rw [va_up_ne _ _ em, va_up_ne _ _ ek]
      rw [hmn2]
      refine ⟨⟨x1, x2, x3⟩, ⟨fun hn => x4 (fun hh => hn (ho x hh)), x5⟩, fun i hi => ?_⟩
      rw [hLd]
      have hin : tIn (tAdd T m w p f1 f2 nk (tNs T k (dn k) m) k (dn k)) x i = tIn T x i := by
        show (if x = k ∧ i = dn k then m else tIn T x i) = tIn T x i
        rw [if_neg (fun h => ek h.1)]
      obtain ⟨⟨y1, y2, y3, y4⟩, y5, y6, y7⟩ := x6 i hi
      obtain ⟨d1, d2, d3, d4, d5, d6, d7, d8⟩ := acc (tIn T x i) (by omega)
      rw [hin, hNs, d1, d6, d7, d8]
      exact ⟨⟨y1, by omega, y3, y4⟩, y5, y6, y7⟩
