/-- the values of a run, in both -/
def vR (nv : Nat) (iv : mI) (ar : mA) (iw : mI) (aw : mA) : Prop := (nv ≤ 2000 ∧ iv 1005 = nI nv ∧ iw 56 = nI nv) ∧ ∀ k, k < nv → ar 1000 k = aw 58 k ∧ ar 1001 k = aw 59 k ∧ ∀ l, l < 8 → aw 60 (8 * k + l) = if (ar 1000 k = nI 5 ∧ ((ar 1001 k >>> (nI l &&& nI 31)) &&& nI 1) = nI 1) ∨ (ar 1000 k = nI 6 ∧ ar 1001 k = nI l) then ar 1002 (k * 8 + l) else m1
/-- what is bound, in both -/
def cR (nc : Nat) (iv : mI) (ar : mA) (iw : mI) (aw : mA) : Prop := (iv 102 = nI nc ∧ iw 65 = nI nc) ∧ ∀ i, i < nc → ar 100 i = aw 63 i ∧ ar 101 i = aw 64 i
/-- what is bound around fits the types of the variables around -/
def eOK (kd lb : Nat → Nat) (pt : Nat → Nat → Nat) (va τ : Nat → Nat) (nv nc : Nat) (ar : mA) : List Nat → Int32 → Prop
  | [], _ => True
  | h :: s, c => ∃ i w, i < nc ∧ c = nI i ∧ w < nv ∧ ar 100 i = nI w ∧ blw kd lb pt (τ w) (va h) ∧ eOK kd lb pt va τ nv nc ar s (ar 101 i)
theorem eOK_up {kd lb : Nat → Nat} {pt : Nat → Nat → Nat} {va τ τ2 : Nat → Nat} {nv nv2 nc nc2 : Nat} {ar ar2 : mA} (h1 : nv ≤ nv2) (h2 : nc ≤ nc2) (h3 : ∀ i, i < nc → ar2 100 i = ar 100 i ∧ ar2 101 i = ar 101 i) (h4 : ∀ w, w < nv → τ2 w = τ w) : ∀ (s : List Nat) (c : Int32), eOK kd lb pt va τ nv nc ar s c → eOK kd lb pt va τ2 nv2 nc2 ar2 s c
  | [], _, _ => trivial
  | h :: s, c, ⟨i, w, a1, a2, a3, a4, a5, a6⟩ => ⟨i, w, by omega, a2, by omega, by rw [(h3 i a1).1]; exact a4, by rw [h4 w a3]; exact a5, by rw [(h3 i a1).2]; exact eOK_up h1 h2 h3 h4 s _ a6⟩
/-- the values fit their types; pn: the one whose function is to come -/
def vT (g : Nat) (kd lb : Nat → Nat) (pt : Nat → Nat → Nat) (T : TT) (ty va τ : Nat → Nat) (vis : List Nat) (nv nc : Nat) (pn : Int32) (ar aw : mA) : Prop := ∀ v, v < nv → (τ v < g ∧ ar 1000 v = nI (kd (τ v)) ∧ 2 ≤ kd (τ v)) ∧
  (kd (τ v) = 4 → nI v = pn ∨ ∃ k, k ∈ vis ∧ tWd T k = 21 ∧ τ v = ty k ∧ ar 1003 v = nI (tPl T k) ∧ aw 61 v = nI (tIn T k 0) ∧ ar 1004 v = aw 62 v ∧ eOK kd lb pt va τ nv nc ar (tSc T k) (ar 1004 v)) ∧
  (kd (τ v) = 5 → ∃ L, L < 256 ∧ ar 1001 v = nI L ∧ ∀ l, l < 8 → (lb (τ v)).testBit l = true → L.testBit l = true ∧ ∃ w, w < nv ∧ ar 1002 (v * 8 + l) = nI w ∧ blw kd lb pt (τ w) (pt (τ v) l)) ∧
  (kd (τ v) = 6 → ∃ l w, l < 8 ∧ ar 1001 v = nI l ∧ (lb (τ v)).testBit l = true ∧ w < nv ∧ ar 1002 (v * 8 + l) = nI w ∧ blw kd lb pt (τ w) (pt (τ v) l))
/-- how many terms in it must be done before a term is finished -/
def tNd (T : TT) (k : Nat) : Nat := if tWd T k = 28 ∨ tWd T k = 32 then 1 else tNk T k
/-- the type that the innermost open term wants next is above t -/
def exB (kd lb : Nat → Nat) (pt : Nat → Nat → Nat) (T : TT) (ty : Nat → Nat) (t : Nat) : List (Nat × Int32 × Nat) → Prop
  | [] => True
  | (k, _, n) :: _ => blw kd lb pt t (ty (tKt T k n))
/-- the terms that are begun and not done, the innermost first: term, what is bound around, how many in it are done -/
def fO (kd lb : Nat → Nat) (pt : Nat → Nat → Nat) (T : TT) (ty va τ : Nat → Nat) (vis : List Nat) (nv nc : Nat) (ar aw : mA) : List (Nat × Int32 × Nat) → Prop
  | [] => True
  | (k, c, n) :: fs => ((ar 403 fs.length = nI (tPl T k) ∧ ar 404 fs.length = c ∧ ar 405 fs.length = nI n) ∧ (aw 66 fs.length = nI k ∧ aw 67 fs.length = c ∧ aw 68 fs.length = nI n) ∧ (k ∈ vis ∧ n < tNd T k ∧ tWd T k ≠ 20 ∧ tWd T k ≠ 21 ∧ tWd T k ≠ 33) ∧ eOK kd lb pt va τ nv nc ar (tSc T k) c ∧ (∀ j, j < n → ∃ w, w < nv ∧ ar 406 (fs.length * 8 + j) = nI w ∧ aw 70 (9 * fs.length + j) = nI w ∧ blw kd lb pt (τ w) (ty (tKt T k j))) ∧ exB kd lb pt T ty (ty k) fs) ∧ fO kd lb pt T ty va τ vis nv nc ar aw fs
