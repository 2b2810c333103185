-- the classes whose objects the worlds hold
abbrev cls : List vw_C := [(RX0, TX0, 6), (RX1, TX1, 3), (RX2, TX2, 10), (RX3, TX3, 4), (RX4, TX4, 13), (RX5, TX5, 4), (RX6, TX6, 5), (RX7, TX7, 8), (RX8, TX8, 6), (RX9, TX9, 7), (RX10, TX10, 6), (RX11, TX11, 12), (RX12, TX12, 76)]
/-- the words of the tables that every method keeps -/
def gtb : List Cond := lw_tbl.filter goodWord
theorem gtb_in {w : Cond} (h : w ∈ gtb) : w ∈ lw_tbl := (List.mem_filter.mp h).1
theorem in_gtb {w : Cond} (i : Nat) (h : lw_tbl[i]? = some w) (hg : goodWord w = true) : w ∈ gtb := List.mem_filter.mpr ⟨List.mem_of_getElem? h, hg⟩
/-- the words of a method: its code, and all of the tables -/
def tbw (y : MethodName) (c : ByteArray) (n : Nat) (r : Option FieldType) : List Cond := Cond.code y c n r :: gtb
theorem tbl_good {w : Cond} (h : w ∈ gtb) : (w.onTables && w.keeps) = true ∨ ∃ ty, w = .arrayClass ty := good_of_word (List.mem_filter.mp h).2
theorem tbw_good {y : MethodName} {c : ByteArray} {n : Nat} {r : Option FieldType} (h : Cond.code y c n r ∈ gtb) : GoodIn gtb (tbw y c n r) := by
  intro w hw
  rcases List.mem_cons.mp hw with rfl | hw
  · exact ⟨h, tbl_good h⟩
  · exact ⟨hw, tbl_good hw⟩
/-- one class of int arrays, one of long arrays -/
abbrev aty (cI cJ : ClassId) : List (ClassId × FieldType) := [(cI, .int), (cJ, .long)]
/-- what holds all through one activation of a method -/
def mCx (p : Program) (s : State) (m : MethodId) (args : Array Value) (meth : Method) (c : Code) (own : String) (cc : ByteArray) (nL : Nat) (ret : Option FieldType) (D : va_G) (cI cJ : ClassId) (A : Nat → Prop) : Prop :=
  (p.tables.exec = Jvm.exec ∧ c.code = cc ∧ c.maxLocals = nL ∧ s.vm.findClass own = some m.cls ∧ ∀ w ∈ gtb, w.before args s = true) ∧ meth.sig.returnType = ret ∧ meth.locks = false ∧ va_K D cls (aty cI cJ) s ∧ (∀ q, s.heap.size ≤ q → A q)
/-- the heap holds the world w, and nothing else that was there has changed -/
def inW (D : va_G) (A : Nat → Prop) (s : State) (w : va_W) (H : Heap) (locs : List Loc) : Prop := va_P D cls w H ∧ va_D A w ∧ va_S A s.heap H locs
/-- of the world w: the object at a has the value v in the field that the pool of 'own' names by idx -/
def isF (w : va_W) (a : Nat) (own : String) (idx : Nat) (v : Value) : Prop := ∃ (q0 ci : Nat) (fs : List Value) (C : String) (T : u_T) (N k : Nat), w[q0]? = some (a, .inr (ci, fs)) ∧ cls[ci]? = some (C, T, N) ∧ (∀ x ∈ u_ws C T N, x ∈ gtb) ∧ k < N ∧ Cond.fieldLink own idx (T k).1 (T k).2.1 (T k).2.2.1 ∈ gtb ∧ fs[k]? = some v
/-- and with v put there it is the world w' -/
def isP (w w' : va_W) (a : Nat) (own : String) (idx : Nat) (v : Value) : Prop := ∃ (q0 ci : Nat) (fs : List Value) (C : String) (T : u_T) (N k : Nat) (ty0 : Nat → FieldType), w[q0]? = some (a, .inr (ci, fs)) ∧ cls[ci]? = some (C, T, N) ∧ (∀ x ∈ u_ws C T N, x ∈ gtb) ∧ k < N ∧ Cond.fieldLink own idx (T k).1 (T k).2.1 (T k).2.2.1 ∈ gtb ∧ (∀ k, k < N → parseFieldDescriptor (T k).2.2.1 = some (ty0 k)) ∧ (∀ a, a < N → ∀ b, b < N → a ≠ b → (T a).2.1 ≠ (T b).2.1) ∧ (T k).2.2.2 = false ∧ narrow (ty0 k) v = v ∧ fits (ty0 k) v = true ∧ k < fs.length ∧ w.set q0 (a, .inr (ci, fs.set k v)) = w'
def isA (cI : ClassId) (w : va_W) (a n : Nat) (f : Nat → Int32) : Prop := ∃ q0 : Nat, w[q0]? = some (a, .inl (cI, n, .inl f))
def isAs (cI : ClassId) (w w' : va_W) (a n i : Nat) (x : Int32) : Prop := ∃ (q0 : Nat) (f : Nat → Int32), w[q0]? = some (a, .inl (cI, n, .inl f)) ∧ w.set q0 (a, .inl (cI, n, .inl (upd f i x))) = w'
def isJ (cJ : ClassId) (w : va_W) (a n : Nat) (f : Nat → Int64) : Prop := ∃ q0 : Nat, w[q0]? = some (a, .inl (cJ, n, .inr (.inl f)))
def isJs (cJ : ClassId) (w w' : va_W) (a n i : Nat) (x : Int64) : Prop := ∃ (q0 : Nat) (f : Nat → Int64), w[q0]? = some (a, .inl (cJ, n, .inr (.inl f))) ∧ w.set q0 (a, .inl (cJ, n, .inr (.inl (vp_updL f i x)))) = w'
/-- the object at a is of the class C -/
def isO (w : va_W) (a : Nat) (C : String) : Prop := ∃ (q0 ci : Nat) (fs : List Value) (T : u_T) (N : Nat), w[q0]? = some (a, .inr (ci, fs)) ∧ cls[ci]? = some (C, T, N)
/-- what the tables say of a method that is called on an object, and of the caller's link -/
def isM (y : MethodName) (bytes : ByteArray) (maxL : Nat) (ret : Option FieldType) (n : Nat) : Prop := (Cond.instanceMethod y ∈ gtb ∧ Cond.selects y.cls y y ∈ gtb ∧ Cond.initialized y.cls ∈ gtb ∧ Cond.code y bytes maxL ret ∈ gtb) ∧ y.cls ≠ "java/lang/invoke/MethodHandle" ∧ y.cls ≠ "java/lang/invoke/VarHandle" ∧ (parseMethodDescriptor y.desc).map (fun d => d.parameters.length) = some n
def isSt (y : MethodName) (bytes : ByteArray) (maxL : Nat) (ret : Option FieldType) (n : Nat) : Prop := (Cond.static y ∈ gtb ∧ Cond.initialized y.cls ∈ gtb ∧ Cond.code y bytes maxL ret ∈ gtb) ∧ y.cls ≠ "java/lang/invoke/MethodHandle" ∧ y.cls ≠ "java/lang/invoke/VarHandle" ∧ (parseMethodDescriptor y.desc).map (fun d => d.parameters.length) = some n
abbrev rmO (f lc : Nat) : Room := { frames := f, cells := 0, slots := 0, locals := lc }
/-- a contract start and end: from the world w to the world w' with the answer r -/
def ctP (D : va_G) (cI cJ : ClassId) (As : List Value) (w : va_W) (sz : Nat) : Array Value → State → Prop := va_Pc As (fun U => U.heap.size = sz ∧ va_P D cls w U.heap ∧ va_K D cls (aty cI cJ) U ∧ va_D (fun _ => True) w)
def ctB (D : va_G) (cI cJ : ClassId) (w' : va_W) (A : Nat → Prop) (t : State) : Prop := va_P D cls w' t.heap ∧ va_K D cls (aty cI cJ) t ∧ va_D A w'
def ctQ (D : va_G) (cI cJ : ClassId) (w' : va_W) (A : Nat → Prop) (r : Int32) : Array Value → State → Outcome → State → Prop := va_Qi (fun (r' : Int32) (_ : Unit) => r' = r) (fun _ => ctB D cI cJ w' A) A
def ctQv (D : va_G) (cI cJ : ClassId) (w' : va_W) (A : Nat → Prop) : Array Value → State → Outcome → State → Prop := va_Qv (fun (_ : Unit) => True) (fun _ => ctB D cI cJ w' A) A
def ctQr (D : va_G) (cI cJ : ClassId) (w' : va_W) (A : Nat → Prop) (r : Nat) : Array Value → State → Outcome → State → Prop := va_Qr (fun (_ : Unit) => True) (fun _ a t => a = r ∧ ctB D cI cJ w' A t) A
def Ct (l : Launch) (D : va_G) (cI cJ : ClassId) (y : MethodName) (bytes : ByteArray) (maxL : Nat) (ret : Option FieldType) (f lc : Nat) (As : List Value) (w w' : va_W) (r : Int32) : Prop := ∀ sz : Nat, Met l y (tbw y bytes maxL ret) (rmO f lc) (ctP D cI cJ As w sz) (ctQ D cI cJ w' (va_A w sz) r) 0 0 (va_A w sz)
def CtV (l : Launch) (D : va_G) (cI cJ : ClassId) (y : MethodName) (bytes : ByteArray) (maxL : Nat) (f lc : Nat) (As : List Value) (w w' : va_W) : Prop := ∀ sz : Nat, Met l y (tbw y bytes maxL none) (rmO f lc) (ctP D cI cJ As w sz) (ctQv D cI cJ w' (va_A w sz)) 0 0 (va_A w sz)
def CtR (l : Launch) (D : va_G) (cI cJ : ClassId) (y : MethodName) (bytes : ByteArray) (maxL : Nat) (ret : Option FieldType) (f lc : Nat) (As : List Value) (w w' : va_W) (r : Nat) : Prop := ∀ sz : Nat, Met l y (tbw y bytes maxL ret) (rmO f lc) (ctP D cI cJ As w sz) (ctQr D cI cJ w' (va_A w sz) r) 0 0 (va_A w sz)
theorem ctP_blind {D : va_G} {cI cJ : ClassId} {As : List Value} {w : va_W} {sz : Nat} : FrameBlind (ctP D cI cJ As w sz) := fun a U g mk q => by
  obtain ⟨q0, q1, qP, qK, qD⟩ := q
  exact ⟨q0, q1, qP, va_K.moved (u := U) (U := U.calling g mk a) (Vm.Alike.refl U.vm) qK, qD⟩
section G
variable {p : Program} {l : Launch} {e : Env} {R : Room} {s : State} {m : MethodId} {args : Array Value} {below : List Frame} {meth : Method} {c : Code} {H : Heap} {locs : List Loc} {cells slots : Nat} {Q : State → Prop}
variable {cc : ByteArray} {nL pc : Nat} {ls : Array Slot} {rest : List Value} {D : va_G} {cI cJ : ClassId} {A : Nat → Prop} {own : String} {ret : Option FieldType} {w w' : va_W}
theorem g_get (C : mCx p s m args meth c own cc nL ret D cI cJ A) (hw : inW D A s w H locs) {a idx : Nat} {v : Value} (hf : isF w a own idx v) (hdg : decode cc pc = .ok (.getfield idx, 3))
    (kk : W p l e R s m args below meth c H locs cells slots Q (F0 m (pc + 3) ls (v :: rest))) : W p l e R s m args below meth c H locs cells slots Q (F0 m pc ls (.ref a :: rest)) := by
  obtain ⟨⟨hx, hb, hml, hown, hts⟩, hr, hlk, hK, hA⟩ := C
  obtain ⟨q0, ci, fs, C, T, N, k, h1, h2, h3, h4, h5, h6⟩ := hf
  exact va_get hx hb hts h3 hown hK hw.1 q0 h1 h2 k h4 (hts _ h5) (fun _ h => h) h6 hdg kk
theorem g_put (C : mCx p s m args meth c own cc nL ret D cI cJ A) (hw : inW D A s w H locs) {a idx : Nat} {v : Value} (hf : isP w w' a own idx v) (hdg : decode cc pc = .ok (.putfield idx, 3))
    (kk : ∀ (H : Heap) (locs : List Loc), inW D A s w' H locs → W p l e R s m args below meth c H locs cells slots Q (F0 m (pc + 3) ls rest)) : W p l e R s m args below meth c H locs cells slots Q (F0 m pc ls (v :: .ref a :: rest)) := by
  obtain ⟨⟨hx, hb, hml, hown, hts⟩, hr, hlk, hK, hA⟩ := C
  obtain ⟨q0, ci, fs, C, T, N, k, ty0, h1, h2, h3, h4, h5, h6, h7, h8, h9, h10, h11, rfl⟩ := hf
  exact va_put hx hb hts h3 ty0 h6 h7 hown hK hw.1 hw.2.1 hw.2.2 q0 h1 h2 k h4 (hts _ h5) (fun _ h => h) h8 (h6 k h4) h9 h10 h11 hdg (fun H1 locs1 a1 a2 a3 => kk H1 locs1 ⟨a1, a2, a3⟩)
theorem g_ald (C : mCx p s m args meth c own cc nL ret D cI cJ A) (hw : inW D A s w H locs) {a n : Nat} {f : Nat → Int32} (hf : isA cI w a n f) {i : Int32} (hin : ¬ (i < 0 ∨ n ≤ i.toNatClampNeg)) (hdg : decode cc pc = .ok (.iaload, 1))
    (kk : W p l e R s m args below meth c H locs cells slots Q (F0 m (pc + 1) ls (.int (f i.toNatClampNeg) :: rest))) : W p l e R s m args below meth c H locs cells slots Q (F0 m pc ls (.int i :: .ref a :: rest)) := by
  obtain ⟨⟨hx, hb, hml, hown, hts⟩, hr, hlk, hK, hA⟩ := C
  obtain ⟨q0, h1⟩ := hf
  exact va_iald hx hb hK hw.1 q0 0 h1 rfl hin hdg kk
theorem g_ast (C : mCx p s m args meth c own cc nL ret D cI cJ A) (hw : inW D A s w H locs) {a n : Nat} {i x : Int32} (hf : isAs cI w w' a n i.toNatClampNeg x) (hin : ¬ (i < 0 ∨ n ≤ i.toNatClampNeg)) (hdg : decode cc pc = .ok (.iastore, 1))
    (kk : ∀ (H : Heap) (locs : List Loc), inW D A s w' H locs → W p l e R s m args below meth c H locs cells slots Q (F0 m (pc + 1) ls rest)) : W p l e R s m args below meth c H locs cells slots Q (F0 m pc ls (.int x :: .int i :: .ref a :: rest)) := by
  obtain ⟨⟨hx, hb, hml, hown, hts⟩, hr, hlk, hK, hA⟩ := C
  obtain ⟨q0, f, h1, rfl⟩ := hf
  exact va_iast hx hb hK hw.1 hw.2.1 hw.2.2 q0 0 h1 rfl hin hdg (fun H1 locs1 a1 a2 a3 => kk H1 locs1 ⟨a1, a2, a3⟩)
theorem g_lald (C : mCx p s m args meth c own cc nL ret D cI cJ A) (hw : inW D A s w H locs) {a n : Nat} {f : Nat → Int64} (hf : isJ cJ w a n f) {i : Int32} (hin : ¬ (i < 0 ∨ n ≤ i.toNatClampNeg)) (hdg : decode cc pc = .ok (.laload, 1))
    (kk : W p l e R s m args below meth c H locs cells slots Q (F0 m (pc + 1) ls (.long (f i.toNatClampNeg) :: rest))) : W p l e R s m args below meth c H locs cells slots Q (F0 m pc ls (.int i :: .ref a :: rest)) := by
  obtain ⟨⟨hx, hb, hml, hown, hts⟩, hr, hlk, hK, hA⟩ := C
  obtain ⟨q0, h1⟩ := hf
  exact va_lald hx hb hK hw.1 q0 1 h1 rfl hin hdg kk
theorem g_last (C : mCx p s m args meth c own cc nL ret D cI cJ A) (hw : inW D A s w H locs) {a n : Nat} {i : Int32} {x : Int64} (hf : isJs cJ w w' a n i.toNatClampNeg x) (hin : ¬ (i < 0 ∨ n ≤ i.toNatClampNeg)) (hdg : decode cc pc = .ok (.lastore, 1))
    (kk : ∀ (H : Heap) (locs : List Loc), inW D A s w' H locs → W p l e R s m args below meth c H locs cells slots Q (F0 m (pc + 1) ls rest)) : W p l e R s m args below meth c H locs cells slots Q (F0 m pc ls (.long x :: .int i :: .ref a :: rest)) := by
  obtain ⟨⟨hx, hb, hml, hown, hts⟩, hr, hlk, hK, hA⟩ := C
  obtain ⟨q0, f, h1, rfl⟩ := hf
  exact va_last hx hb hK hw.1 hw.2.1 hw.2.2 q0 1 h1 rfl hin hdg (fun H1 locs1 a1 a2 a3 => kk H1 locs1 ⟨a1, a2, a3⟩)
theorem g_free (C : mCx p s m args meth c own cc nL ret D cI cJ A) (hw : inW D A s w H locs) : ∀ q, va_A w H.size q → A q := by
  intro q h
  rcases h with ⟨k, e, h⟩ | h
  · exact hw.2.1.2 k (q, e) h
  · exact C.2.2.2.2 q (Nat.le_trans hw.2.2.1 h)
theorem g_cw (C : mCx p s m args meth c own cc nL ret D cI cJ A) {y : MethodName} {bytes : ByteArray} {maxL n idx f lc : Nat} {rt : Option FieldType} (hm : isM y bytes maxL rt n) (hl : Cond.methodLink own idx y ∈ gtb) (hR : f + 1 ≤ R.frames ∧ 8 + (maxL + 11) + lc ≤ R.locals) : CallW R s args own y.cls idx y bytes maxL rt (tbw y bytes maxL rt) (rmO f lc) 0 0 n := by
  obtain ⟨⟨hx, hb, hml, hown, hts⟩, hr, hlk, hK, hA⟩ := C
  obtain ⟨⟨h1, h2, h3, h4⟩, h5⟩ := hm
  exact ⟨callB_of n hts (tbw_good h4) rfl rfl rfl (hts _ h3) (hts _ hl) h5 hR, hts _ h1, hts _ h2⟩
theorem g_pre (C : mCx p s m args meth c own cc nL ret D cI cJ A) (hw : inW D A s w H locs) {y : MethodName} {b : Nat} {As : List Value} (ho : isO w b y.cls) : PreV s H y.cls b (ctP D cI cJ (.ref b :: As) w H.size) As := by
  obtain ⟨⟨hx, hb, hml, hown, hts⟩, hr, hlk, hK, hA⟩ := C
  obtain ⟨q0, ci, fs, T, N, h1, h2⟩ := ho
  exact ⟨ctP_blind, va_recv hK hw.1 h2 h1, fun U hU hW => ⟨rfl, by rw [hU], by rw [hU]; exact hw.1, va_K.moved hW.alike hK, hw.2.1.weaken (fun _ _ _ _ => trivial)⟩⟩
theorem g_preS (C : mCx p s m args meth c own cc nL ret D cI cJ A) (hw : inW D A s w H locs) {As : List Value} : PreS s H (ctP D cI cJ As w H.size) As := by
  obtain ⟨⟨hx, hb, hml, hown, hts⟩, hr, hlk, hK, hA⟩ := C
  exact ⟨ctP_blind, fun U hU hW => ⟨rfl, by rw [hU], by rw [hU]; exact hw.1, va_K.moved hW.alike hK, hw.2.1.weaken (fun _ _ _ _ => trivial)⟩⟩
/-- a call of a method of the world, with an int answer -/
theorem g_calli (C : mCx p s m args meth c own cc nL ret D cI cJ A) (hw : inW D A s w H locs) {y : MethodName} {bytes : ByteArray} {maxL n idx f lc : Nat} {rt : Option FieldType} {b : Nat} {As st0 : List Value} {r : Int32} (hM : Ct l D cI cJ y bytes maxL rt f lc (.ref b :: As) w w' r) (hm : isM y bytes maxL rt n) (hl : Cond.methodLink own idx y ∈ gtb) (ho : isO w b y.cls) (hsz : ls.size = nL) (hn : As.length = n) (hst : st0 = As.reverse ++ .ref b :: rest) (hrest : (rest.map fun v => v.category).sum ≤ 8) (hR : f + 1 ≤ R.frames ∧ 8 + (maxL + 11) + lc ≤ R.locals) (hdg : decode cc pc = .ok (.invokevirtual idx, 3)) (hfc : cells ≤ R.cells ∧ slots ≤ R.slots)
    (kk : ∀ (H : Heap) (locs : List Loc), inW D A s w' H locs → W p l e R s m args below meth c H locs cells slots Q (F0 m (pc + 3) ls (.int r :: rest))) : W p l e R s m args below meth c H locs cells slots Q (F0 m pc ls st0) := by
  have hF := g_free C hw
  refine va_calli (va_runV (g := F0 m pc ls st0) C.1 (hM H.size) (g_cw C hm hl hR) (g_pre C hw ho) rfl hn hsz hst (lv_room hrest) hdg hfc) hw.2.2 (fun q _ h => hF q h) hF (fun r' u t H1 locs1 ht hvm hp hB hz1 hk1 hS => ?_)
  obtain ⟨hP1, hK1, hD1⟩ := hB
  rw [ht] at hP1
  rw [hp]
  exact kk H1 locs1 ⟨hP1, hD1.weaken (fun k q _ h => hF q.1 h), hS⟩
theorem g_callv (C : mCx p s m args meth c own cc nL ret D cI cJ A) (hw : inW D A s w H locs) {y : MethodName} {bytes : ByteArray} {maxL n idx f lc : Nat} {b : Nat} {As st0 : List Value} (hM : CtV l D cI cJ y bytes maxL f lc (.ref b :: As) w w') (hm : isM y bytes maxL none n) (hl : Cond.methodLink own idx y ∈ gtb) (ho : isO w b y.cls) (hsz : ls.size = nL) (hn : As.length = n) (hst : st0 = As.reverse ++ .ref b :: rest) (hrest : (rest.map fun v => v.category).sum ≤ 8) (hR : f + 1 ≤ R.frames ∧ 8 + (maxL + 11) + lc ≤ R.locals) (hdg : decode cc pc = .ok (.invokevirtual idx, 3)) (hfc : cells ≤ R.cells ∧ slots ≤ R.slots)
    (kk : ∀ (H : Heap) (locs : List Loc), inW D A s w' H locs → W p l e R s m args below meth c H locs cells slots Q (F0 m (pc + 3) ls rest)) : W p l e R s m args below meth c H locs cells slots Q (F0 m pc ls st0) := by
  have hF := g_free C hw
  refine va_callv (va_runV (g := F0 m pc ls st0) C.1 (hM H.size) (g_cw C hm hl hR) (g_pre C hw ho) rfl hn hsz hst (lv_room hrest) hdg hfc) hw.2.2 (fun q _ h => hF q h) hF (fun u t H1 locs1 ht hvm hp hB hz1 hk1 hS => ?_)
  obtain ⟨hP1, hK1, hD1⟩ := hB
  rw [ht] at hP1
  exact kk H1 locs1 ⟨hP1, hD1.weaken (fun k q _ h => hF q.1 h), hS⟩
theorem g_callr (C : mCx p s m args meth c own cc nL ret D cI cJ A) (hw : inW D A s w H locs) {y : MethodName} {bytes : ByteArray} {maxL n idx f lc : Nat} {rt : Option FieldType} {b r : Nat} {As st0 : List Value} (hM : CtR l D cI cJ y bytes maxL rt f lc (.ref b :: As) w w' r) (hm : isM y bytes maxL rt n) (hl : Cond.methodLink own idx y ∈ gtb) (ho : isO w b y.cls) (hsz : ls.size = nL) (hn : As.length = n) (hst : st0 = As.reverse ++ .ref b :: rest) (hrest : (rest.map fun v => v.category).sum ≤ 8) (hR : f + 1 ≤ R.frames ∧ 8 + (maxL + 11) + lc ≤ R.locals) (hdg : decode cc pc = .ok (.invokevirtual idx, 3)) (hfc : cells ≤ R.cells ∧ slots ≤ R.slots)
    (kk : ∀ (H : Heap) (locs : List Loc), inW D A s w' H locs → W p l e R s m args below meth c H locs cells slots Q (F0 m (pc + 3) ls (.ref r :: rest))) : W p l e R s m args below meth c H locs cells slots Q (F0 m pc ls st0) := by
  have hF := g_free C hw
  refine va_callr (va_runV (g := F0 m pc ls st0) C.1 (hM H.size) (g_cw C hm hl hR) (g_pre C hw ho) rfl hn hsz hst (lv_room hrest) hdg hfc) hw.2.2 (fun q _ h => hF q h) hF (fun u ra t H1 locs1 ht hvm hp hB hz1 hk1 hS => ?_)
  obtain ⟨hra, hP1, hK1, hD1⟩ := hB
  rw [ht] at hP1
  rw [hra]
  exact kk H1 locs1 ⟨hP1, hD1.weaken (fun k q _ h => hF q.1 h), hS⟩
/-- a call of a static method of the caller's class, with an int answer -/
theorem g_calls (C : mCx p s m args meth c own cc nL ret D cI cJ A) (hw : inW D A s w H locs) {y : MethodName} {bytes : ByteArray} {maxL n idx f lc : Nat} {rt : Option FieldType} {As st0 : List Value} {r : Int32} (hM : Ct l D cI cJ y bytes maxL rt f lc As w w' r) (hm : isSt y bytes maxL rt n) (hl : Cond.methodLink own idx y ∈ gtb) (hsz : ls.size = nL) (hn : As.length = n) (hst : st0 = As.reverse ++ rest) (hrest : (rest.map fun v => v.category).sum ≤ 8) (hR : f + 1 ≤ R.frames ∧ 8 + (maxL + 11) + lc ≤ R.locals) (hdg : decode cc pc = .ok (.invokestatic idx, 3)) (hfc : cells ≤ R.cells ∧ slots ≤ R.slots)
    (kk : ∀ (H : Heap) (locs : List Loc), inW D A s w' H locs → W p l e R s m args below meth c H locs cells slots Q (F0 m (pc + 3) ls (.int r :: rest))) : W p l e R s m args below meth c H locs cells slots Q (F0 m pc ls st0) := by
  have hF := g_free C hw
  have hts := C.1.2.2.2.2
  obtain ⟨⟨h1, h3, h4⟩, h5⟩ := hm
  refine va_calli (va_runS (g := F0 m pc ls st0) C.1 (hM H.size) ⟨callB_of n hts (tbw_good h4) rfl rfl rfl (hts _ h3) (hts _ hl) h5 hR, hts _ h1⟩ (g_preS C hw) rfl hn hsz hst (lv_room hrest) hdg hfc) hw.2.2 (fun q _ h => hF q h) hF (fun r' u t H1 locs1 ht hvm hp hB hz1 hk1 hS => ?_)
  obtain ⟨hP1, hK1, hD1⟩ := hB
  rw [ht] at hP1
  rw [hp]
  exact kk H1 locs1 ⟨hP1, hD1.weaken (fun k q _ h => hF q.1 h), hS⟩
theorem g_iret (C : mCx p s m args meth c own cc nL (some .int) D cI cJ A) (hw : inW D A s w H locs) {v : Int32} (hdg : decode cc pc = .ok (.ireturn, 1)) : W p l e R s m args below meth c H locs cells slots (MQ below (ctQ D cI cJ w A v) args s cells slots A) (F0 m pc ls [.int v]) := by
  obtain ⟨⟨hx, hb, hml, hown, hts⟩, hr, hlk, hK, hA⟩ := C
  obtain ⟨hP, hD, hS⟩ := hw
  exact W.iret (v := v) hx hb hr (fun t ht hW => ⟨⟨v, (), rfl, rfl, by rw [ht]; exact hP, va_K.moved hW.alike hK, hD⟩, hS.F ht⟩) hS.2.2 hdg (hlocks := hlk)
theorem g_zret (C : mCx p s m args meth c own cc nL (some .boolean) D cI cJ A) (hw : inW D A s w H locs) {v : Int32} (hv : v = 0 ∨ v = 1) (hdg : decode cc pc = .ok (.ireturn, 1)) : W p l e R s m args below meth c H locs cells slots (MQ below (ctQ D cI cJ w A v) args s cells slots A) (F0 m pc ls [.int v]) := by
  obtain ⟨⟨hx, hb, hml, hown, hts⟩, hr, hlk, hK, hA⟩ := C
  obtain ⟨hP, hD, hS⟩ := hw
  exact W.zret (v := v) hx hb hr (by rcases hv with rfl | rfl <;> decide +kernel) (fun t ht hW => ⟨⟨v, (), rfl, rfl, by rw [ht]; exact hP, va_K.moved hW.alike hK, hD⟩, hS.F ht⟩) hS.2.2 hdg (hlocks := hlk)
theorem g_vret (C : mCx p s m args meth c own cc nL none D cI cJ A) (hw : inW D A s w H locs) (hdg : decode cc pc = .ok (.return_, 1)) : W p l e R s m args below meth c H locs cells slots (MQ below (ctQv D cI cJ w A) args s cells slots A) (F0 m pc ls []) := by
  obtain ⟨⟨hx, hb, hml, hown, hts⟩, hr, hlk, hK, hA⟩ := C
  obtain ⟨hP, hD, hS⟩ := hw
  exact W.vret hx hb hr (fun t ht hW => ⟨⟨(), rfl, trivial, by rw [ht]; exact hP, va_K.moved hW.alike hK, hD⟩, hS.F ht⟩) hS.2.2 hdg (hlocks := hlk)
theorem g_aret (C : mCx p s m args meth c own cc nL ret D cI cJ A) (hw : inW D A s w H locs) {v : Nat} (hrt : ∃ n, ret = some (.object n)) (hdg : decode cc pc = .ok (.areturn, 1)) : W p l e R s m args below meth c H locs cells slots (MQ below (ctQr D cI cJ w A v) args s cells slots A) (F0 m pc ls [.ref v]) := by
  obtain ⟨⟨hx, hb, hml, hown, hts⟩, hr, hlk, hK, hA⟩ := C
  obtain ⟨hP, hD, hS⟩ := hw
  obtain ⟨n, rfl⟩ := hrt
  exact W.aret (v := .ref v) hx hb hr (Or.inl ⟨n, rfl⟩) (Or.inr ⟨v, rfl⟩) (fun t ht hW => ⟨⟨(), v, rfl, trivial, rfl, by rw [ht]; exact hP, va_K.moved hW.alike hK, hD⟩, hS.F ht⟩) hS.2.2 hdg (hlocks := hlk)
end G
/-- a contract out of a walk of the body -/
theorem ct_of {l : Launch} {D : va_G} {cI cJ : ClassId} {y : MethodName} {bytes : ByteArray} {maxL f lc : Nat} {ret : Option FieldType} {As : List Value} {w : va_W} {sz : Nat} {Qc : Array Value → State → Outcome → State → Prop} (hy : plainName y.cls = true) (hfit : (lg_sl As).length ≤ maxL)
    (body : ∀ (p : Program) (e : Env) (s : State) (m : MethodId) (args : Array Value) (below : List Frame) (meth : Method) (c : Code), mCx p s m args meth c y.cls bytes maxL ret D cI cJ (va_A w sz) → inW D (va_A w sz) s w s.heap [] → ∀ ls : Array Slot, lv_has ls maxL (lv_args 0 As) → W p l e (rmO f lc) s m args below meth c s.heap [] 0 0 (MQ below Qc args s 0 0 (va_A w sz)) (F0 m 0 ls [])) :
    Met l y (tbw y bytes maxL ret) (rmO f lc) (ctP D cI cJ As w sz) Qc 0 0 (va_A w sz) := by
  refine Met.ofW (cc := bytes) (maxL := maxL) (ret := ret) hy rfl ?_
  intro p e s m args below meth c s₁ B hml hv
  obtain ⟨rfl, hsz, hP, hK, hD0⟩ := hv
  have hts := atoms_spec (ws := tbw y bytes maxL ret) B.pre
  have hl := lv_entry As (n := maxL) hfit
  subst hsz
  rw [lg_entry_eq]
  exact body p e s m _ below meth c ⟨⟨B.exec, B.bytes, hml, findClass_of_methodNamed B.named, fun w hw => hts w (List.mem_cons_of_mem _ hw)⟩, B.returns, B.notSynchronized, hK, fun q h => Or.inr h⟩ ⟨hP, hD0.self, va_S.rf⟩ _ hl
/-- steps of a mirror: how an equation of it goes on -/
theorem it_t {α : Type} {c : Prop} [Decidable c] {a b z : α} (h : c) (e : (if c then a else b) = z) : a = z := by rwa [if_pos h] at e
theorem it_f {α : Type} {c : Prop} [Decidable c] {a b z : α} (h : ¬ c) (e : (if c then a else b) = z) : b = z := by rwa [if_neg h] at e
theorem it_a {α : Type} {c : Prop} [Decidable c] {a : Option α} {z : α} (e : (if c then none else a) = some z) : ¬ c ∧ a = some z := by
  by_cases h : c
  · rw [if_pos h] at e; cases e
  · rw [if_neg h] at e; exact ⟨h, e⟩
abbrev mI : Type := Nat → Int32
abbrev mA : Type := Nat → Nat → Int32
/-- behind a call -/
def ob {γ : Type} (x : Option (Int32 × mI × mA)) (f : Int32 → mI → mA → Option γ) : Option γ := match x with
  | none => none
  | some (r, i, a) => f r i a
theorem ob_some {γ : Type} {x : Option (Int32 × mI × mA)} {f : Int32 → mI → mA → Option γ} {z : γ} (h : ob x f = some z) : ∃ r i a, x = some (r, i, a) ∧ f r i a = some z := by
  cases x with
  | none => cases h
  | some q => exact ⟨q.1, q.2.1, q.2.2, rfl, h⟩
