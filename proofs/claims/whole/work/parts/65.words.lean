/-- what a turn of reading a type comes to, in both: a fault; all is read; or the next label is due -/
def tOut (f0 n p : Nat) (iv : mI) (ar : mA) (la : mL) (pA pB : mA) (iw : mI) (aw : mA) (CW : Option (Int32 × mI × mA × mL × mA × mA)) (RW : (Int32 → mI → mA → Option (Int32 × mI × mA)) → Option (Int32 × mI × mA)) : Prop :=
  (∃ (x : Int32) (iv2 : mI) (ar2 : mA) (iw2 : mI) (aw2 : mA), CW = some (0, iv2, ar2, la, pA, pB) ∧ (∀ K, RW K = K x iw2 aw2) ∧ flt f0 iv2 iw2 ∧ fT f0 iv ar iv2 ar2 ∧ fU f0 iw aw iw2 aw2) ∨
  (∃ (g p2 : Nat) (kd lb lr : Nat → Nat) (pt : Nat → Nat → Nat) (iv2 : mI) (ar2 : mA) (iw2 : mI) (aw2 : mA), CW = some (1, iv2, ar2, la, pA, pB) ∧ (∀ K, RW K = K (nI f0) iw2 aw2) ∧ iv2 906 = nI 0 ∧ iw2 29 = nI 0 ∧ rd n p2 iv2 ar2 iw2 aw2 ∧ pg f0 g kd lb lr pt [] iv2 ar2 iw2 aw2 ∧ g ≤ 400 ∧ (iv2 804 = m1 ∧ iv2 805 = m1 ∧ iw2 2 = m1) ∧ fT f0 iv ar iv2 ar2 ∧ fU f0 iw aw iw2 aw2) ∨
  (∃ (x : Int32) (m : Nat) (iv1 : mI) (ar1 : mA) (iv2 : mI) (ar2 : mA) (iw2 : mI) (aw2 : mA), CW = some (1, iv1, ar1, la, pA, pB) ∧ (m < 200 ∧ p < n) ∧ iv1 906 = nI (m + 1) ∧ (∀ K, RW K = K x iw2 aw2) ∧ fT f0 iv ar iv2 ar2 ∧ fU f0 iw aw iw2 aw2 ∧ ((mX9_readLabel iv1 ar1 la pA pB = some (0, iv2, ar2, la, pA, pB) ∧ flt f0 iv2 iw2) ∨ (mX9_readLabel iv1 ar1 la pA pB = some (1, iv2, ar2, la, pA, pB) ∧ ∃ (g p2 : Nat) (kd lb lr : Nat → Nat) (pt : Nat → Nat → Nat) (f : Nat × Nat × Nat × Nat) (fs : List (Nat × Nat × Nat × Nat)), p < p2 ∧ wst f0 g n p2 kd lb lr pt (f :: fs) iv2 ar2 iw2 aw2)))
theorem tOut_t {f0 n p p2 : Nat} {iv iv1 : mI} {ar ar1 : mA} {la : mL} {pA pB : mA} {iw iw1 : mI} {aw aw1 : mA} {CW : Option (Int32 × mI × mA × mL × mA × mA)} {RW : (Int32 → mI → mA → Option (Int32 × mI × mA)) → Option (Int32 × mI × mA)} (hp : p ≤ p2) (h1 : fT f0 iv ar iv1 ar1) (h2 : fU f0 iw aw iw1 aw1) (h : tOut f0 n p2 iv1 ar1 la pA pB iw1 aw1 CW RW) : tOut f0 n p iv ar la pA pB iw aw CW RW := by
  rcases h with ⟨x, iv2, ar2, iw2, aw2, a1, a2, a3, a4, a5⟩ | ⟨g, p3, kd, lb, lr, pt, iv2, ar2, iw2, aw2, a1, a2, a3, a4, a5, a6, a7, a8, a9, a10⟩ | ⟨x, m, ivm, arm, iv2, ar2, iw2, aw2, a1, a2, a3, a4, a5, a6, a7⟩
  · exact Or.inl ⟨x, iv2, ar2, iw2, aw2, a1, a2, a3, fT_t h1 a4, fU_t h2 a5⟩
  · exact Or.inr (Or.inl ⟨g, p3, kd, lb, lr, pt, iv2, ar2, iw2, aw2, a1, a2, a3, a4, a5, a6, a7, a8, fT_t h1 a9, fU_t h2 a10⟩)
  · refine Or.inr (Or.inr ⟨x, m, ivm, arm, iv2, ar2, iw2, aw2, a1, ⟨a2.1, by omega⟩, a3, a4, fT_t h1 a5, fU_t h2 a6, ?_⟩)
    rcases a7 with b | ⟨b1, g, p3, kd, lb, lr, pt, f, fs, b2, b3⟩
    · exact Or.inl b
    · exact Or.inr ⟨b1, g, p3, kd, lb, lr, pt, f, fs, by omega, b3⟩
/-- what is open and what is read, after a word -/
def mst (f0 g n p : Nat) (kd lb lr : Nat → Nat) (pt : Nat → Nat → Nat) (t : Prop) (w : Int32) (fs : List (Nat × Nat × Nat × Nat)) (iv : mI) (ar : mA) (iw : mI) (aw : mA) : Prop := rd n p iv ar iw aw ∧ okF f0 g kd lb lr t fs ∧ pg f0 g kd lb lr pt fs iv ar iw aw ∧ (stC ar fs ∧ stR g w aw fs ∧ iv 906 = nI fs.length ∧ iw 29 = nI fs.length) ∧ (fs.length ≤ p ∧ f0 ≤ 200 ∧ g ≤ f0 + p) ∧ iv 804 = m1 ∧ iv 805 = m1 ∧ iw 2 = m1
theorem settle_turn {f0 g n p : Nat} {kd lb lr : Nat → Nat} {pt : Nat → Nat → Nat} {t : Prop} {w : Int32} {fs : List (Nat × Nat × Nat × Nat)} {iv : mI} {ar : mA} {iw : mI} {aw : mA} {la : mL} {pA pB : mA} (h : mst f0 g n p kd lb lr pt t w fs iv ar iw aw) {x : Nat} (hx : x < g) (hx0 : noN fs → x = f0) {q : Nat} (hq : q < p) : tOut f0 n q iv ar la pA pB iw aw (obc (mX9_settle (nI x) iv ar la pA pB) (fun _ iv70 ar70 la70 pA70 pB70 => some (1, iv70, ar70, la70, pA70, pB70))) (fun K => ob (mX12_settle (nI x) iw aw) (fun r61 iv61 ar61 => K r61 iv61 ar61)) := by
  obtain ⟨hrd, hok, hpg, ⟨hc, hr, o1, o2⟩, ⟨b1, b2, b3⟩, z1, z2, z3⟩ := h
  have hp2 : p ≤ 200 := Nat.le_trans hrd.2.1 hrd.1
  obtain ⟨F, hF, hFF⟩ : ∃ F, bigF = F + 1 ∧ 5000 < F := ⟨999999, rfl, by omega⟩
  have hS := settle_both (la := la) (pA := pA) (pB := pB) (show g ≤ 400 by omega) fs t x lb pt iv ar iw aw bigF bigF (by omega) (by omega) (by omega) hok hpg hc hr o1 o2 hrd.2.2.2.2.2.2.1 hx hx0
  unfold mX9_settle mX12_settle
  rw [o1]
  rcases hS with ⟨lb2, pt2, iv2, ar2, iw2, aw2, a1, a2, a3, a4, a5, ⟨s1, s2, s3, s4⟩⟩ | ⟨y, lf, l, fs2, lb2, pt2, iv2, ar2, iw2, aw2, n3, x2, a1, a2, a3, a4, a5, a6, a7, a8, a9, ⟨s1, s2, s3, s4⟩⟩
  · have hrd2 : rd n p iv2 ar2 iw2 aw2 := rd_next hrd hrd.2.1 (s1 _ (by decide)) (s2 _ (by decide)) (by rw [s1 _ (by decide)]; exact hrd.2.2.2.2.1) (by rw [s2 _ (by decide)]; exact hrd.2.2.2.2.2.1) (s2 _ (by decide)) (s3.2.1 _ (by decide) (by decide) (by decide) (by decide) (by decide) (by decide) (by decide)) (s4.2.1 _ (by decide) (by decide) (by decide) (by decide) (by decide) (by decide) (by decide))
    refine Or.inr (Or.inl ⟨g, p, kd, lb2, lr, pt2, iv2, ar2, iw2, aw2, by rw [a1]; rfl, fun K => by rw [a2]; rfl, a4, a5, hrd2, a3, by omega, ⟨by rw [s1 _ (by decide)]; exact z1, by rw [s1 _ (by decide)]; exact z2, by rw [s2 _ (by decide)]; exact z3⟩, s3, s4⟩)
  · have hrd2 : rd n p iv2 ar2 iw2 aw2 := rd_next hrd hrd.2.1 (s1 _ (by decide)) (s2 _ (by decide)) (by rw [s1 _ (by decide)]; exact hrd.2.2.2.2.1) (by rw [s2 _ (by decide)]; exact hrd.2.2.2.2.2.1) (s2 _ (by decide)) (s3.2.1 _ (by decide) (by decide) (by decide) (by decide) (by decide) (by decide) (by decide)) (s4.2.1 _ (by decide) (by decide) (by decide) (by decide) (by decide) (by decide) (by decide))
    obtain ⟨iv3, ar3, iw3, aw3, t1, t2, t3, t4⟩ := label_both (la := la) (pA := pA) (pB := pB) (show lws f0 g n p kd lb2 lr pt2 y lf l fs2 iv2 ar2 iw2 aw2 from ⟨hrd2, a3, a4, ⟨a5, a6, a7, a8⟩, ⟨by omega, b2, b3⟩, by rw [s1 _ (by decide)]; exact z1, by rw [s1 _ (by decide)]; exact z2, by rw [s2 _ (by decide)]; exact z3⟩)
    refine Or.inr (Or.inr ⟨x2, fs2.length, iv2, ar2, iv3, ar3, iw3, aw3, by rw [a1]; rfl, ⟨by omega, Nat.lt_of_lt_of_le hq hrd.2.1⟩, a7, fun K => ?_, fT_t s3 t2, fU_t s4 t3, ?_⟩)
    · rw [a2, t1, obe]
      unfold mX12_settle_L4
      rw [if_pos rfl]
      rfl
    · rcases t4 with t4 | ⟨t4, p2, l2, lr2, t5, t6⟩
      · exact Or.inl t4
      · exact Or.inr ⟨t4, g, p2, kd, lb2, lr2, pt2, _, _, by omega, t6⟩
theorem resolve_loop {f0 g : Nat} {kd lb lr : Nat → Nat} {v : Int32} {iw : mI} : ∀ (fs : List (Nat × Nat × Nat × Nat)) (aw : mA) (n : Nat), fs.length < n → fs.length ≤ 200 → okF f0 g kd lb lr True fs → stR g m1 aw fs → ∃ aw2, mX12_resolve_L7 n v (nI fs.length - 1) iw aw = some (0, iw, aw2) ∧ stR g v aw2 fs ∧ (∀ k, k ≠ 25 → aw2 k = aw k) ∧ (∀ i, fs.length ≤ i → aw2 25 i = aw 25 i)
  | [], aw, n, hn, _, _, _ => by
    obtain ⟨n, rfl⟩ : ∃ k, n = k + 1 := ⟨n - 1, by omega⟩
    refine ⟨aw, ?_, trivial, fun _ _ => rfl, fun _ _ => rfl⟩
    unfold mX12_resolve_L7
    rw [if_pos (show nI ([] : List (Nat × Nat × Nat × Nat)).length - 1 < 0 by decide)]
  | (0, x, lf, l) :: fs, aw, n, hn, hl, ⟨⟨h1, _⟩, h7⟩, ⟨⟨r1, r2, r3⟩, hr⟩ => by
    rw [List.length_cons] at *
    obtain ⟨n, rfl⟩ : ∃ k, n = k + 1 := ⟨n - 1, by omega⟩
    refine ⟨aw, ?_, ⟨⟨by rw [if_pos h1] at r1 ⊢; exact r1, r2, r3⟩, stR_w fs h7 hr⟩, fun _ _ => rfl, fun _ _ => rfl⟩
    unfold mX12_resolve_L7
    rw [nsub1, if_neg (nI_pos (by omega)), if_neg (by first | exact nI_in (by omega) (by omega) | exact nI_inn (by omega) (by omega)), ncl (by omega), r2, if_pos (show nI 0 - 1 < (0 : Int32) by decide)]
  | (u + 1, x, lf, l) :: fs, aw, n, hn, hl, ⟨⟨h1, h2, h3, h4, h5⟩, h7⟩, ⟨⟨r1, r2, r3⟩, hr⟩ => by
    rw [List.length_cons] at *
    obtain ⟨n, rfl⟩ : ∃ k, n = k + 1 := ⟨n - 1, by omega⟩
    have hr2 : stR g m1 (au aw 25 fs.length v) fs := by
      refine stR_keep2 fs (fun i hi => ?_) hr
      refine ⟨?_, ?_, ?_, ?_⟩ <;> first | rfl | exact au_ni _ (by omega) | (simp [aur, show ¬ i = fs.length by omega]; done)
    obtain ⟨aw2, a1, a2, a3, a4⟩ := resolve_loop fs (au aw 25 fs.length v) n (by omega) (by omega) h7 hr2
    refine ⟨aw2, ?_, ⟨⟨?_, ?_, fun h => absurd h (Nat.succ_ne_zero u)⟩, a2⟩, fun k hk => ?_, fun i hi => ?_⟩
    · unfold mX12_resolve_L7
      rw [nsub1, if_neg (nI_pos (by omega)), if_neg (by first | exact nI_in (by omega) (by omega) | exact nI_inn (by omega) (by omega)), ncl (by omega), r2, nsub1, if_neg (nI_pos (by omega)), if_neg (by first | exact nI_in (by omega) (by omega) | exact nI_inn (by omega) (by omega)), pm1]
      exact a1
    · rw [a4 _ (Nat.le_refl _), au_self, h4 trivial, if_neg (Nat.lt_irrefl g)]
    · rw [a3 _ (by decide), au_ne _ (by decide)]
      exact r2
    · rw [a3 k hk, au_ne _ hk]
    · rw [a4 i (by omega), au_ni _ (by omega)]
theorem pg_new {f0 g : Nat} {kd lb lr : Nat → Nat} {pt : Nat → Nat → Nat} {fs fs2 : List (Nat × Nat × Nat × Nat)} {iv : mI} {ar : mA} {iw : mI} {aw : mA} (h : pg f0 g kd lb lr pt fs iv ar iw aw) {K : Nat} (hK : K ≤ 6) {iv2 : mI} {ar2 : mA} {iw2 : mI} {aw2 : mA} (e1 : iv2 303 = nI (g + 1)) (e2 : iw2 3 = nI (g + 1)) (e3 : ∀ k, k ≠ g → ar2 300 k = ar 300 k ∧ ar2 301 k = ar 301 k) (e4 : ar2 300 g = nI K) (e5 : ar2 301 g = nI 0) (e6 : ar2 302 = ar 302) (e7 : ∀ k, k ≠ g → aw2 4 k = aw 4 k ∧ aw2 5 k = aw 5 k) (e8 : aw2 4 g = nI K) (e9 : aw2 5 g = nI (if K = 4 then 3 else 0)) (e10 : ∀ i, i < 8 * g → aw2 6 i = aw 6 i)
    (hc : ∀ k, k ≠ g → (∀ f, f ∈ fs2 → f.1 = 0 → f.2.1 ≠ k) → (∀ f, f ∈ fs → f.1 = 0 → f.2.1 ≠ k)) (hc2 : K = 4 → ∃ f, f ∈ fs2 ∧ f.1 = 0 ∧ f.2.1 = g) :
    pg f0 (g + 1) (va_up kd g K) (va_up lb g 0) (va_up lr g (if K = 4 then 3 else 0)) pt fs2 iv2 ar2 iw2 aw2 := by
  obtain ⟨h1, h2, h3, h4⟩ := h
  refine ⟨e1, e2, by omega, fun k hk => ?_⟩
  by_cases e : k = g
  · subst e
    simp only [upr, if_true]
    refine ⟨⟨hK, by omega, e4, e8, e5, e9⟩, fun l _ hb => ?_, fun w => ?_⟩
    · rw [Nat.zero_testBit] at hb
      cases hb
    · have hK4 : K ≠ 4 := fun h => by
        obtain ⟨f, f1, f2, f3⟩ := hc2 h
        exact w f f1 f2 f3
      rw [if_neg hK4]
      exact ⟨rfl, fun _ => trivial, fun h => absurd h hK4⟩
  · obtain ⟨⟨a1, a2, a3, a4, a5, a6⟩, a7, a8⟩ := h4 k (by omega)
    simp only [upr, e, if_false]
    rw [(e3 k e).1, (e3 k e).2, (e7 k e).1, (e7 k e).2, e6]
    refine ⟨⟨a1, a2, a3, a4, a5, a6⟩, fun l hl hb => ?_, fun w => a8 (hc k e w)⟩
    obtain ⟨b1, b2, b3⟩ := a7 l hl hb
    rw [e10 _ (by omega)]
    exact ⟨b1, b2, by omega⟩
