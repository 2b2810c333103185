section
variable {g : Nat} {kd lb : Nat → Nat} {pt : Nat → Nat → Nat} {T : TT} {ty va : Nat → Nat} {vis : List Nat}
/-- what was a value stays one -/
theorem vT_up {τ τ2 : Nat → Nat} {nv nv2 nc nc2 : Nat} {pn pn2 : Int32} {ar aw ar2 aw2 : mA} (h : vT g kd lb pt T ty va τ vis nv nc pn ar aw) (h1 : nv ≤ nv2) (h2 : nc ≤ nc2) (h3 : ∀ i, i < nc → ar2 100 i = ar 100 i ∧ ar2 101 i = ar 101 i) (h4 : ∀ w, w < nv → τ2 w = τ w) (h5 : ∀ v, v < nv → ar2 1000 v = ar 1000 v ∧ ar2 1001 v = ar 1001 v ∧ (nI v ≠ pn → ar2 1003 v = ar 1003 v ∧ ar2 1004 v = ar 1004 v ∧ aw2 61 v = aw 61 v ∧ aw2 62 v = aw 62 v) ∧ ∀ l, l < 8 → ar2 1002 (v * 8 + l) = ar 1002 (v * 8 + l)) {v : Nat} (hv : v < nv) (hp : nI v = pn → nI v = pn2 ∨ ∃ k, k ∈ vis ∧ tWd T k = 21 ∧ τ2 v = ty k ∧ ar2 1003 v = nI (tPl T k) ∧ aw2 61 v = nI (tIn T k 0) ∧ ar2 1004 v = aw2 62 v ∧ eOK kd lb pt va τ2 nv2 nc2 ar2 (tSc T k) (ar2 1004 v)) : (τ2 v < g ∧ ar2 1000 v = nI (kd (τ2 v)) ∧ 2 ≤ kd (τ2 v)) ∧
  (kd (τ2 v) = 4 → nI v = pn2 ∨ ∃ k, k ∈ vis ∧ tWd T k = 21 ∧ τ2 v = ty k ∧ ar2 1003 v = nI (tPl T k) ∧ aw2 61 v = nI (tIn T k 0) ∧ ar2 1004 v = aw2 62 v ∧ eOK kd lb pt va τ2 nv2 nc2 ar2 (tSc T k) (ar2 1004 v)) ∧
  (kd (τ2 v) = 5 → ∃ L, L < 256 ∧ ar2 1001 v = nI L ∧ ∀ l, l < 8 → (lb (τ2 v)).testBit l = true → L.testBit l = true ∧ ∃ w, w < nv2 ∧ ar2 1002 (v * 8 + l) = nI w ∧ blw kd lb pt (τ2 w) (pt (τ2 v) l)) ∧
  (kd (τ2 v) = 6 → ∃ l w, l < 8 ∧ ar2 1001 v = nI l ∧ (lb (τ2 v)).testBit l = true ∧ w < nv2 ∧ ar2 1002 (v * 8 + l) = nI w ∧ blw kd lb pt (τ2 w) (pt (τ2 v) l)) := by
  obtain ⟨⟨a1, a2, a3⟩, a4, a5, a6⟩ := h v hv
  obtain ⟨b1, b2, b3, b4⟩ := h5 v hv
  rw [h4 v hv, b1, b2]
  refine ⟨⟨a1, a2, a3⟩, fun e => ?_, fun e => ?_, fun e => ?_⟩
  · by_cases ep : nI v = pn
    · rcases hp ep with q | ⟨k, q1, q2, q3, q4⟩
      · exact Or.inl q
      · exact Or.inr ⟨k, q1, q2, by rw [← h4 v hv]; exact q3, q4⟩
    · rcases a4 e with q | ⟨k, q1, q2, q3, q4, q5, q6, q7⟩
      · exact absurd q ep
      · obtain ⟨c1, c2, c3, c4⟩ := b3 ep
        refine Or.inr ⟨k, q1, q2, q3, by rw [c1]; exact q4, by rw [c3]; exact q5, by rw [c2, c4]; exact q6, ?_⟩
        rw [c2]
        exact eOK_up h1 h2 h3 h4 _ _ q7
  · obtain ⟨L, q1, q2, q3⟩ := a5 e
    refine ⟨L, q1, q2, fun l hl hb => ?_⟩
    obtain ⟨r1, w, r2, r3, r4⟩ := q3 l hl hb
    exact ⟨r1, w, by omega, by rw [b4 l hl]; exact r3, by rw [h4 w r2]; exact r4⟩
  · obtain ⟨l, w, q1, q2, q3, q4, q5, q6⟩ := a6 e
    exact ⟨l, w, q1, q2, q3, by omega, by rw [b4 l q1]; exact q5, by rw [h4 w q4]; exact q6⟩
theorem fO_up {τ τ2 : Nat → Nat} {nv nv2 nc nc2 : Nat} {ar aw ar2 aw2 : mA} (h1 : nv ≤ nv2) (h2 : nc ≤ nc2) (h3 : ∀ i, i < nc → ar2 100 i = ar 100 i ∧ ar2 101 i = ar 101 i) (h4 : ∀ w, w < nv → τ2 w = τ w) : ∀ (fs : List (Nat × Int32 × Nat)), (∀ i, i < fs.length → ar2 403 i = ar 403 i ∧ ar2 404 i = ar 404 i ∧ ar2 405 i = ar 405 i ∧ aw2 66 i = aw 66 i ∧ aw2 67 i = aw 67 i ∧ aw2 68 i = aw 68 i) → (∀ i, i < fs.length * 8 → ar2 406 i = ar 406 i) → (∀ i, i < 9 * fs.length → aw2 70 i = aw 70 i) → (∀ f, f ∈ fs → f.2.2 < 9) → fO kd lb pt T ty va τ vis nv nc ar aw fs → fO kd lb pt T ty va τ2 vis nv2 nc2 ar2 aw2 fs
  | [], _, _, _, _, _ => trivial
  | (k, c, n) :: fs, h5, h6, h7, h8, ⟨⟨⟨a1, a2, a3⟩, ⟨b1, b2, b3⟩, c1, c2, c3, c4⟩, h9⟩ => by
    obtain ⟨e1, e2, e3, e4, e5, e6⟩ := h5 fs.length (by rw [List.length_cons]; omega)
    have hn := h8 (k, c, n) List.mem_cons_self
    have hn' : n < 9 := hn
    refine ⟨⟨⟨by rw [e1]; exact a1, by rw [e2]; exact a2, by rw [e3]; exact a3⟩, ⟨by rw [e4]; exact b1, by rw [e5]; exact b2, by rw [e6]; exact b3⟩, c1, eOK_up h1 h2 h3 h4 _ _ c2, fun j hj => ?_, c4⟩, fO_up h1 h2 h3 h4 fs (fun i hi => h5 i (by rw [List.length_cons]; omega)) (fun i hi => h6 i (by rw [List.length_cons]; omega)) (fun i hi => h7 i (by rw [List.length_cons]; omega)) (fun f hf => h8 f (List.mem_cons_of_mem _ hf)) h9⟩
    obtain ⟨w, w1, w2, w3, w4⟩ := c3 j hj
    exact ⟨w, by omega, by rw [h6 _ (by rw [List.length_cons]; omega)]; exact w2, by rw [h7 _ (by rw [List.length_cons]; omega)]; exact w3, by rw [h4 w w1]; exact w4⟩
end
/-- what a run needs to know of its term -/
def rCx (g0 : Nat) (kd0 lb0 : Nat → Nat) (g : Nat) (kd lb : Nat → Nat) (pt : Nat → Nat → Nat) (m : Nat) (T : TT) (ty va : Nat → Nat) (vis : List Nat) (pA : mA) : Prop := tAll g0 kd0 lb0 m T ∧ tCl m T pA ∧ tOk m T g kd lb pt ty va vis
/-- the machine, in both: nv values, nc cells, s steps, the open terms fs -/
def mSt (g : Nat) (kd lb : Nat → Nat) (pt : Nat → Nat → Nat) (m : Nat) (T : TT) (ty va τ : Nat → Nat) (vis : List Nat) (nv nc s : Nat) (pn : Int32) (fs : List (Nat × Int32 × Nat)) (iv : mI) (ar : mA) (iw : mI) (aw : mA) : Prop := (vR nv iv ar iw aw ∧ cR nc iv ar iw aw) ∧ (vT g kd lb pt T ty va τ vis nv nc pn ar aw ∧ fO kd lb pt T ty va τ vis nv nc ar aw fs) ∧ (iv 407 = nI fs.length ∧ iw 71 = nI fs.length ∧ fs.length ≤ 300) ∧ (iv 408 = nI s ∧ iw 57 = nI s ∧ nc + fs.length ≤ s ∧ s ≤ 20000) ∧ iw 72 = 0 ∧ tDo m T aw
/-- a term is due: k, with c around it; pn the value that it is to be -/
def dSt (kd lb : Nat → Nat) (pt : Nat → Nat → Nat) (T : TT) (ty va τ : Nat → Nat) (vis : List Nat) (nv nc : Nat) (pn : Int32) (fs : List (Nat × Int32 × Nat)) (k : Nat) (c : Int32) (iv : mI) (ar : mA) (iw : mI) : Prop := (iv 409 = nI (tPl T k) ∧ iv 410 = c ∧ iv 411 = pn) ∧ (iw 73 = nI k ∧ iw 74 = c ∧ iw 75 = pn) ∧ (k ∈ vis ∧ eOK kd lb pt va τ nv nc ar (tSc T k) c ∧ exB kd lb pt T ty (ty k) fs) ∧ (pn = m1 ∨ ∃ v, pn = nI v ∧ v < nv ∧ tWd T k = 21 ∧ τ v = ty k)
/-- a value was got -/
def gSt (kd lb : Nat → Nat) (pt : Nat → Nat → Nat) (T : TT) (ty τ : Nat → Nat) (nv : Nat) (fs : List (Nat × Int32 × Nat)) (v : Nat) (iv : mI) (iw : mI) : Prop := (iv 409 = m1 ∧ iv 412 = nI v ∧ iv 411 = m1) ∧ iw 73 = m1 ∧ v < nv ∧ exB kd lb pt T ty (τ v) fs
