section
variable {g0 : Nat} {kd0 lb0 : Nat → Nat} {g : Nat} {kd lb : Nat → Nat} {pt : Nat → Nat → Nat} {m : Nat} {T : TT} {ty va : Nat → Nat} {vis : List Nat}
/-- what a turn of the machine comes to -/
def tuO (g : Nat) (kd lb : Nat → Nat) (pt : Nat → Nat → Nat) (m : Nat) (T : TT) (ty va : Nat → Nat) (vis : List Nat) (n n2 lim t s : Nat) (iv : mI) (ar : mA) (la : mL) (pA pB : mA) (iw : mI) (aw : mA) (C : Option (Int32 × mI × mA × mL × mA × mA)) (R : Option (Int32 × mI × mA)) : Prop :=
  (∃ (τ : Nat → Nat) (nv nc : Nat) (pn : Int32) (fs : List (Nat × Int32 × Nat)) (k : Nat) (c : Int32) (iv2 : mI) (ar2 : mA) (iw2 : mI) (aw2 : mA), C = mX4_perform_L22 n (nI lim) (nI (t + 1)) iv2 ar2 la pA pB ∧ R = mX12_run_L63 n2 (nI lim) (-1) iw2 aw2 ∧ mSt g kd lb pt m T ty va τ vis nv nc s pn fs iv2 ar2 iw2 aw2 ∧ dSt kd lb pt T ty va τ vis nv nc pn fs k c iv2 ar2 iw2 ∧ t + 1 + fs.length ≤ 2 * s ∧ fRc iv ar iv2 ar2 ∧ fRr iw aw iw2 aw2) ∨
  (∃ (τ : Nat → Nat) (nv nc : Nat) (fs : List (Nat × Int32 × Nat)) (v F : Nat) (iv2 : mI) (ar2 : mA) (iw2 : mI) (aw2 : mA), C = mX4_perform_L22 n (nI lim) (nI (t + 1)) iv2 ar2 la pA pB ∧ R = rGo n2 F lim fs.length (nI v) iw2 aw2 ∧ 4000 + fs.length ≤ F ∧ mSt g kd lb pt m T ty va τ vis nv nc s m1 fs iv2 ar2 iw2 aw2 ∧ gSt kd lb pt T ty τ nv fs v iv2 iw2 ∧ t + 1 + fs.length + 1 ≤ 2 * s ∧ fRc iv ar iv2 ar2 ∧ fRr iw aw iw2 aw2) ∨
  (∃ (nv : Nat) (iv2 : mI) (ar2 : mA) (iw2 : mI) (aw2 : mA), C = some (m16, iv2, ar2, la, pA, pB) ∧ R = some (m16, iw2, aw2) ∧ vR nv iv2 ar2 iw2 aw2 ∧ iv2 408 = iw2 57 ∧ fRc iv ar iv2 ar2 ∧ fRr iw aw iw2 aw2)
theorem fO_n9 {τ : Nat → Nat} {nv nc : Nat} {ar aw : mA} (hA : tAll g0 kd0 lb0 m T) (hok : tOk m T g kd lb pt ty va vis) : ∀ (fs : List (Nat × Int32 × Nat)), fO kd lb pt T ty va τ vis nv nc ar aw fs → ∀ f, f ∈ fs → f.2.2 < 9
  | [], _, f, hf => by cases hf
  | (k, c, n) :: fs, ⟨⟨_, _, ⟨c1, c2, _⟩, _⟩, h2⟩, f, hf => by
    rcases List.mem_cons.mp hf with rfl | hf
    · have h9 := hOK9 (hA.2.2 k (hok.2.2 k c1).1).1.1
      show n < 9
      unfold tNd at c2
      by_cases e : tWd T k = 28 ∨ tWd T k = 32
      · rw [if_pos e] at c2; omega
      · rw [if_neg e] at c2; omega
    · exact fO_n9 hA hok fs h2 f hf
/-- the values with one more, whose parts are none -/
theorem vR_new {nv K : Nat} {x : Int32} {iv : mI} {ar : mA} {iw : mI} {aw aw2 : mA} (h : vR nv iv ar iw aw) (hn : nv < 2000) (hK : K ≤ 6) (hno : ∀ l, l < 8 → ¬ ((nI K = nI 5 ∧ ((x >>> (nI l &&& nI 31)) &&& nI 1) = nI 1) ∨ (nI K = nI 6 ∧ x = nI l))) (a2 : ∀ p, aw2 58 p = if p = nv then nI K else aw 58 p) (a3 : ∀ p, aw2 59 p = if p = nv then x else aw 59 p) (a4 : ∀ p, p < 8 * nv ∨ 8 * nv + 8 ≤ p → aw2 60 p = aw 60 p) (a5 : ∀ i, i < 8 → aw2 60 (8 * nv + i) = m1) {iv2 : mI} {iw2 : mI} {ar2 : mA} (e1 : iv2 1005 = nI (nv + 1)) (e2 : iw2 56 = nI (nv + 1)) (e3 : ∀ p, ar2 1000 p = if p = nv then nI K else ar 1000 p) (e4 : ∀ p, ar2 1001 p = if p = nv then x else ar 1001 p) (e5 : ar2 1002 = ar 1002) : vR (nv + 1) iv2 ar2 iw2 aw2 := by
  obtain ⟨⟨h1, h2, h3⟩, h4⟩ := h
  refine ⟨⟨by omega, e1, e2⟩, fun k hk => ?_⟩
  rw [e3, e4, a2, a3, e5]
  by_cases e : k = nv
  · subst e
    rw [if_pos rfl, if_pos rfl, if_pos rfl, if_pos rfl]
    exact ⟨rfl, rfl, fun l hl => by rw [a5 l hl, if_neg (hno l hl)]⟩
  · rw [if_neg e, if_neg e, if_neg e, if_neg e]
    obtain ⟨b1, b2, b3⟩ := h4 k (by omega)
    exact ⟨b1, b2, fun l hl => by rw [a4 _ (by omega)]; exact b3 l hl⟩
theorem exB_ty {τ : Nat → Nat} {t t2 : Nat} {fs : List (Nat × Int32 × Nat)} (hok : tOk m T g kd lb pt ty va vis) (hA : tAll g0 kd0 lb0 m T) {nv nc : Nat} {ar aw : mA} (hfO : fO kd lb pt T ty va τ vis nv nc ar aw fs) (ht : t < g) (ht2 : t2 < g) (hb : blw kd lb pt t2 t) (h : exB kd lb pt T ty t fs) : exB kd lb pt T ty t2 fs := by
  cases fs with
  | nil => trivial
  | cons f fs =>
    obtain ⟨k, c, n⟩ := f
    obtain ⟨⟨_, _, ⟨c1, c2, _⟩, _⟩, _⟩ := hfO
    have hk := (hok.2.2 k c1).1
    have hnk : n < tNk T k := by
      unfold tNd at c2
      by_cases e : tWd T k = 28 ∨ tWd T k = 32
      · rw [if_pos e] at c2
        have hO := (hA.2.2 k hk).1.1
        rcases e with e | e
        · have := hO.2.2.2.2.2.1 e; omega
        · have := (hO.2.2.2.2.2.2.2.2.2 e).1; omega
      · rw [if_neg e] at c2; exact c2
    have hkid := (hok.2.2 k c1).2.2.2.1 (tTp T k n) (tTp_lt hA hk hnk)
    exact blw_trans hok.1.1 ht2 ht (hok.2.2 _ hkid).2.1 hb h
end
