/-- what is open while a type is read, top first: (0, node, parts that lack, label and one), or (v and one, node, 1, 0) of an 8 -/
def stC (ar : mA) : List (Nat × Nat × Nat × Nat) → Prop
  | [] => True
  | (nm, x, lf, l) :: fs => (ar 902 fs.length = nI x ∧ ar 903 fs.length = nI nm - 1 ∧ ar 904 fs.length = nI lf ∧ ar 905 fs.length = nI l - 1) ∧ stC ar fs
def stR (g : Nat) (w : Int32) (aw : mA) : List (Nat × Nat × Nat × Nat) → Prop
  | [] => True
  | (nm, x, lf, l) :: fs => (aw 25 fs.length = (if x < g then nI x else w) ∧ aw 26 fs.length = nI nm - 1 ∧ (nm = 0 → aw 27 fs.length = nI lf ∧ aw 28 fs.length = nI l - 1)) ∧ stR g w aw fs
/-- a node with a part to come: its label stands in the reference's labels already -/
def pend (kd lb lr : Nat → Nat) (x lf l : Nat) : Prop := 1 ≤ l ∧ l ≤ 8 ∧ ((kd x = 4 ∧ lr x = 3 ∧ lb x = 2 ^ (l - 1) - 1 ∧ lf + l = 3) ∨ ((kd x = 5 ∨ kd x = 6) ∧ lr x = lb x ||| 2 ^ (l - 1) ∧ lb x < 2 ^ (l - 1)))
/-- no open node -/
def noN (fs : List (Nat × Nat × Nat × Nat)) : Prop := ∀ f, f ∈ fs → f.1 ≠ 0
/-- what is open is well made; t: nothing but 8s above -/
def okF (f0 g : Nat) (kd lb lr : Nat → Nat) : Prop → List (Nat × Nat × Nat × Nat) → Prop
  | _, [] => True
  | _, (0, x, lf, l) :: fs => (x < g ∧ f0 ≤ x ∧ 1 ≤ lf ∧ lf ≤ 8 ∧ pend kd lb lr x lf l ∧ (∀ f, f ∈ fs → f.1 = 0 → f.2.1 < x) ∧ (noN fs → x = f0)) ∧ okF f0 g kd lb lr False fs
  | t, (v + 1, x, lf, l) :: fs => (v ≤ 9 ∧ lf = 1 ∧ l = 0 ∧ (t → x = g) ∧ (¬ t → x < g)) ∧ okF f0 g kd lb lr t fs
/-- the graph while a type is read -/
def pg (f0 g : Nat) (kd lb lr : Nat → Nat) (pt : Nat → Nat → Nat) (fs : List (Nat × Nat × Nat × Nat)) (iv : mI) (ar : mA) (iw : mI) (aw : mA) : Prop := iv 303 = nI g ∧ iw 3 = nI g ∧ f0 ≤ g ∧ ∀ k, k < g → (kd k ≤ 6 ∧ lb k < 256 ∧ ar 300 k = nI (kd k) ∧ aw 4 k = nI (kd k) ∧ ar 301 k = nI (lb k) ∧ aw 5 k = nI (lr k)) ∧ (∀ l, l < 8 → (lb k).testBit l = true → ar 302 (k * 8 + l) = nI (pt k l) ∧ aw 6 (8 * k + l) = nI (pt k l) ∧ pt k l < g) ∧ ((∀ f, f ∈ fs → f.1 = 0 → f.2.1 ≠ k) → lr k = lb k ∧ (kd k < 4 → lb k = 0) ∧ (kd k = 4 → lb k = 3))
/-- a node of which the next part's label is to come -/
def lst (f0 g : Nat) (kd lb lr : Nat → Nat) (y lf l : Nat) (fs : List (Nat × Nat × Nat × Nat)) : Prop := (y < g ∧ f0 ≤ y ∧ 1 ≤ lf ∧ lf ≤ 8 ∧ l ≤ 8 ∧ ((kd y = 4 ∧ lr y = 3 ∧ lb y = 2 ^ l - 1 ∧ lf + l = 2) ∨ ((kd y = 5 ∨ kd y = 6) ∧ lr y = lb y ∧ lb y < 2 ^ l)) ∧ (∀ f, f ∈ fs → f.1 = 0 → f.2.1 < y) ∧ (noN fs → y = f0)) ∧ okF f0 g kd lb lr False fs
/-- what reading a type leaves alone -/
def fT (f0 : Nat) (iv : mI) (ar : mA) (iv2 : mI) (ar2 : mA) : Prop := (∀ k, k ≠ 303 → k ≠ 802 → k ≠ 803 → k ≠ 804 → k ≠ 805 → k ≠ 906 → iv2 k = iv k) ∧ (∀ k, k ≠ 300 → k ≠ 301 → k ≠ 302 → k ≠ 902 → k ≠ 903 → k ≠ 904 → k ≠ 905 → ar2 k = ar k) ∧ (∀ k, k < f0 → ar2 300 k = ar 300 k ∧ ar2 301 k = ar 301 k) ∧ ∀ i, i < f0 * 8 → ar2 302 i = ar 302 i
def fU (f0 : Nat) (iw : mI) (aw : mA) (iw2 : mI) (aw2 : mA) : Prop := (∀ k, k ≠ 3 → k ≠ 23 → k ≠ 24 → k ≠ 2 → k ≠ 29 → iw2 k = iw k) ∧ (∀ k, k ≠ 4 → k ≠ 5 → k ≠ 6 → k ≠ 25 → k ≠ 26 → k ≠ 27 → k ≠ 28 → aw2 k = aw k) ∧ (∀ k, k < f0 → aw2 4 k = aw 4 k ∧ aw2 5 k = aw 5 k) ∧ ∀ i, i < f0 * 8 → aw2 6 i = aw 6 i
theorem fT_r (f0 : Nat) (iv : mI) (ar : mA) : fT f0 iv ar iv ar := ⟨fun _ _ _ _ _ _ _ => rfl, fun _ _ _ _ _ _ _ _ => rfl, fun _ _ => ⟨rfl, rfl⟩, fun _ _ => rfl⟩
theorem fU_r (f0 : Nat) (iw : mI) (aw : mA) : fU f0 iw aw iw aw := ⟨fun _ _ _ _ _ _ => rfl, fun _ _ _ _ _ _ _ _ => rfl, fun _ _ => ⟨rfl, rfl⟩, fun _ _ => rfl⟩
theorem fT_t {f0 : Nat} {iv iv2 iv3 : mI} {ar ar2 ar3 : mA} (h : fT f0 iv ar iv2 ar2) (h2 : fT f0 iv2 ar2 iv3 ar3) : fT f0 iv ar iv3 ar3 := ⟨fun k a b c d e f => by rw [h2.1 k a b c d e f, h.1 k a b c d e f], fun k a b c d e f g => by rw [h2.2.1 k a b c d e f g, h.2.1 k a b c d e f g], fun k hk => by rw [(h2.2.2.1 k hk).1, (h2.2.2.1 k hk).2]; exact h.2.2.1 k hk, fun i hi => by rw [h2.2.2.2 i hi, h.2.2.2 i hi]⟩
theorem fU_t {f0 : Nat} {iv iv2 iv3 : mI} {ar ar2 ar3 : mA} (h : fU f0 iv ar iv2 ar2) (h2 : fU f0 iv2 ar2 iv3 ar3) : fU f0 iv ar iv3 ar3 := ⟨fun k a b c d e => by rw [h2.1 k a b c d e, h.1 k a b c d e], fun k a b c d e f g => by rw [h2.2.1 k a b c d e f g, h.2.1 k a b c d e f g], fun k hk => by rw [(h2.2.2.1 k hk).1, (h2.2.2.1 k hk).2]; exact h.2.2.1 k hk, fun i hi => by rw [h2.2.2.2 i hi, h.2.2.2 i hi]⟩
/-- the rows of frames below the length only are looked at -/
theorem stC_keep2 {ar ar2 : mA} : ∀ (fs : List (Nat × Nat × Nat × Nat)), (∀ i, i < fs.length → ar2 902 i = ar 902 i ∧ ar2 903 i = ar 903 i ∧ ar2 904 i = ar 904 i ∧ ar2 905 i = ar 905 i) → stC ar fs → stC ar2 fs
  | [], _, _ => trivial
  | (nm, x, lf, l) :: fs, h, ⟨h1, h2⟩ => by
    obtain ⟨a1, a2, a3, a4⟩ := h fs.length (by rw [List.length_cons]; omega)
    exact ⟨by rw [a1, a2, a3, a4]; exact h1, stC_keep2 fs (fun i hi => h i (by rw [List.length_cons]; omega)) h2⟩
theorem stR_keep2 {g : Nat} {w : Int32} {ar ar2 : mA} : ∀ (fs : List (Nat × Nat × Nat × Nat)), (∀ i, i < fs.length → ar2 25 i = ar 25 i ∧ ar2 26 i = ar 26 i ∧ ar2 27 i = ar 27 i ∧ ar2 28 i = ar 28 i) → stR g w ar fs → stR g w ar2 fs
  | [], _, _ => trivial
  | (nm, x, lf, l) :: fs, h, ⟨h1, h2⟩ => by
    obtain ⟨a1, a2, a3, a4⟩ := h fs.length (by rw [List.length_cons]; omega)
    exact ⟨by rw [a1, a2, a3, a4]; exact h1, stR_keep2 fs (fun i hi => h i (by rw [List.length_cons]; omega)) h2⟩
theorem okF_congr {f0 g : Nat} {kd lb lr kd2 lb2 lr2 : Nat → Nat} : ∀ (fs : List (Nat × Nat × Nat × Nat)) (t : Prop), (∀ f, f ∈ fs → f.1 = 0 → kd2 f.2.1 = kd f.2.1 ∧ lb2 f.2.1 = lb f.2.1 ∧ lr2 f.2.1 = lr f.2.1) → okF f0 g kd lb lr t fs → okF f0 g kd2 lb2 lr2 t fs
  | [], _, _, _ => trivial
  | (0, x, lf, l) :: fs, t, h, ⟨⟨h1, h2, h3, h4, h5, h6⟩, h7⟩ => by
    obtain ⟨a1, a2, a3⟩ := h (0, x, lf, l) List.mem_cons_self rfl
    refine ⟨⟨h1, h2, h3, h4, ?_, h6⟩, okF_congr fs False (fun f hf => h f (List.mem_cons_of_mem _ hf)) h7⟩
    unfold pend at h5 ⊢
    rw [show kd2 x = kd x from a1, show lb2 x = lb x from a2, show lr2 x = lr x from a3]
    exact h5
  | (v + 1, x, lf, l) :: fs, t, h, ⟨h1, h7⟩ => ⟨h1, okF_congr fs t (fun f hf => h f (List.mem_cons_of_mem _ hf)) h7⟩
/-- a node more: what was above is settled -/
theorem okF_up {f0 g : Nat} {kd lb lr : Nat → Nat} : ∀ (fs : List (Nat × Nat × Nat × Nat)) (t : Prop), okF f0 g kd lb lr t fs → okF f0 (g + 1) kd lb lr False fs
  | [], _, _ => trivial
  | (0, x, lf, l) :: fs, t, ⟨⟨h1, h2⟩, h7⟩ => ⟨⟨by omega, h2⟩, okF_up fs False h7⟩
  | (v + 1, x, lf, l) :: fs, t, ⟨⟨h1, h2, h3, h4, h5⟩, h7⟩ => by
    refine ⟨⟨h1, h2, h3, fun h => h.elim, fun _ => ?_⟩, okF_up fs t h7⟩
    by_cases ht : t
    · have := h4 ht
      omega
    · have := h5 ht
      omega
theorem c_setP {g y q : Nat} {iv : mI} {ar : mA} {la : mL} {pA pB : mA} (h : iv 303 = nI g) (hg : g ≤ 400) (hy : y < g) (hq : q < 8) (v : Int32) {m : Nat} (hm : ar 301 y = nI m) (hm2 : m < 256) : mX3_setPart (nI y) (nI q) v iv ar la pA pB = some (0, iv, au (au ar 301 y (nI (m ||| 2 ^ q))) 302 (y * 8 + q) v, la, pA, pB) := by
  have h2 : 2 ^ q < 256 := Nat.pow_lt_pow_right (m := q) (n := 8) (by decide) hq
  unfold mX3_setPart
  rw [if_neg (nI_pos (by omega)), h, if_neg (nI_ge hy (by omega)), if_neg (nI_pos (by omega)), if_neg (show ¬ (8 : Int32) ≤ nI q from nI_ge hq (by decide)), if_neg (by first | exact nI_in (by omega) (by omega) | exact nI_inn (by omega) (by omega)), if_neg (by first | exact nI_in (by omega) (by omega) | exact nI_inn (by omega) (by omega)), show (8 : Int32) = nI 8 from rfl, nmul, nadd, if_neg (by first | exact nI_in (by omega) (by omega) | exact nI_inn (by omega) (by omega)), ncl (by omega), ncl (by omega), hm, bit_1 hq, nor_ hm2 h2]
/-- a part is set, in both -/
theorem pg_set {f0 g : Nat} {kd lb lr : Nat → Nat} {pt : Nat → Nat → Nat} {fs fs2 : List (Nat × Nat × Nat × Nat)} {iv : mI} {ar : mA} {iw : mI} {aw : mA} (h : pg f0 g kd lb lr pt fs iv ar iw aw) {y q x : Nat} (hy : y < g) (hq : q < 8) (hx : x < g) {iv2 : mI} {ar2 : mA} {iw2 : mI} {aw2 : mA} (e1 : iv2 303 = iv 303) (e2 : iw2 3 = iw 3) (e3 : ar2 300 = ar 300) (e4 : ∀ k, ar2 301 k = if k = y then nI (lb y ||| 2 ^ q) else ar 301 k) (e5 : ∀ k, ar2 302 k = if k = y * 8 + q then nI x else ar 302 k) (e6 : aw2 4 = aw 4) (e7 : aw2 5 = aw 5) (e8 : ∀ k, aw2 6 k = if k = 8 * y + q then nI x else aw 6 k)
    (hc : ∀ k, k ≠ y → (∀ f, f ∈ fs2 → f.1 = 0 → f.2.1 ≠ k) → (∀ f, f ∈ fs → f.1 = 0 → f.2.1 ≠ k)) (hc2 : (∀ f, f ∈ fs2 → f.1 = 0 → f.2.1 ≠ y) → lr y = lb y ||| 2 ^ q ∧ (kd y < 4 → lb y ||| 2 ^ q = 0) ∧ (kd y = 4 → lb y ||| 2 ^ q = 3)) :
    pg f0 g kd (va_up lb y (lb y ||| 2 ^ q)) lr (fun k l => if k = y ∧ l = q then x else pt k l) fs2 iv2 ar2 iw2 aw2 := by
  obtain ⟨h1, h2, h3, h4⟩ := h
  refine ⟨by rw [e1]; exact h1, by rw [e2]; exact h2, h3, fun k hk => ?_⟩
  obtain ⟨⟨a1, a2, a3, a4, a5, a6⟩, a7, a8⟩ := h4 k hk
  have hp : 2 ^ q < 256 := Nat.pow_lt_pow_right (m := q) (n := 8) (by decide) hq
  rw [e3, e4, e6, e7]
  by_cases e : k = y
  · subst e
    simp only [upr, if_true]
    refine ⟨⟨a1, Nat.or_lt_two_pow (n := 8) a2 hp, a3, a4, trivial, a6⟩, fun l hl hb => ?_, hc2⟩
    rw [e5, e8]
    by_cases el : l = q
    · subst el
      rw [if_pos rfl, if_pos rfl, if_pos ⟨trivial, rfl⟩]
      exact ⟨rfl, rfl, hx⟩
    · rw [if_neg (show ¬ k * 8 + l = k * 8 + q by omega), if_neg (show ¬ 8 * k + l = 8 * k + q by omega), if_neg (show ¬ (True ∧ l = q) from fun c => el c.2)]
      refine a7 l hl ?_
      rw [Nat.testBit_or, Nat.testBit_two_pow] at hb
      rcases Bool.or_eq_true_iff.mp hb with w | w
      · exact w
      · rw [decide_eq_true_eq] at w
        omega
  · simp only [upr, e, if_false, false_and]
    refine ⟨⟨a1, a2, a3, a4, a5, a6⟩, fun l hl hb => ?_, fun c => a8 (hc k e c)⟩
    rw [e5, e8, if_neg (by omega), if_neg (by omega)]
    exact a7 l hl hb
theorem stR_w {f0 g : Nat} {kd lb lr : Nat → Nat} {w w2 : Int32} {aw : mA} : ∀ (fs : List (Nat × Nat × Nat × Nat)), okF f0 g kd lb lr False fs → stR g w aw fs → stR g w2 aw fs
  | [], _, _ => trivial
  | (0, x, lf, l) :: fs, ⟨⟨h1, _⟩, h7⟩, ⟨⟨r1, r2⟩, r3⟩ => ⟨⟨by rw [if_pos h1] at r1 ⊢; exact r1, r2⟩, stR_w fs h7 r3⟩
  | (v + 1, x, lf, l) :: fs, ⟨⟨_, _, _, _, h5⟩, h7⟩, ⟨⟨r1, r2⟩, r3⟩ => ⟨⟨by rw [if_pos (h5 id)] at r1 ⊢; exact r1, r2⟩, stR_w fs h7 r3⟩
theorem stR_up {f0 g : Nat} {kd lb lr : Nat → Nat} {aw : mA} {w : Int32} : ∀ (fs : List (Nat × Nat × Nat × Nat)) (t : Prop), okF f0 g kd lb lr t fs → stR g (nI g) aw fs → stR (g + 1) w aw fs
  | [], _, _, _ => trivial
  | (0, x, lf, l) :: fs, t, ⟨⟨h1, _⟩, h7⟩, ⟨⟨r1, r2⟩, r3⟩ => ⟨⟨by rw [if_pos h1] at r1; rw [if_pos (by omega)]; exact r1, r2⟩, stR_up fs False h7 r3⟩
  | (v + 1, x, lf, l) :: fs, t, ⟨⟨_, _, _, h4, h5⟩, h7⟩, ⟨⟨r1, r2⟩, r3⟩ => by
    refine ⟨⟨?_, r2⟩, stR_up fs t h7 r3⟩
    by_cases ht : t
    · have e := h4 ht
      subst e
      rw [if_neg (Nat.lt_irrefl _)] at r1
      rw [if_pos (Nat.lt_succ_self _)]
      exact r1
    · have e := h5 ht
      rw [if_pos e] at r1
      rw [if_pos (by omega)]
      exact r1
