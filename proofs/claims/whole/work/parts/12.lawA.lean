theorem cb_15 : (Int8.ofInt 15).toInt32 = 15 := by decide +kernel
section L2
variable {p : Program} {l : Launch} {e : Env} {R : Room} {s : State} {m : MethodId} {args : Array Value} {below : List Frame} {meth : Method} {c : Code} {H : Heap} {locs : List Loc} {cells slots : Nat} {Q : State → Prop}
variable {cc : ByteArray} {nL pc : Nat} {ls : Array Slot} {rest : List Value} {D : va_G} {cI cJ : ClassId} {A : Nat → Prop} {own : String} {ret : Option FieldType} {wa wb wa' : va_W}
theorem app_l {k : Nat} {q : Nat × va_E} (h : wa[k]? = some q) : (wa ++ wb)[k]? = some q := by
  have hk : k < wa.length := (List.getElem?_eq_some_iff.mp h).1
  rw [List.getElem?_append_left hk]
  exact h
theorem app_r {k : Nat} {q : Nat × va_E} (h : wb[k]? = some q) : (wa ++ wb)[wa.length + k]? = some q := by
  rw [List.getElem?_append_right (Nat.le_add_right _ _), Nat.add_sub_cancel_left]
  exact h
theorem inW_l (hw : inW D A s (wa ++ wb) H locs) : inW D A s wa H locs :=
  ⟨fun k q h => hw.1 k q (app_l h), ⟨fun i j x y hx hy hxy => hw.2.1.1 i j x y (app_l hx) (app_l hy) hxy, fun k q h => hw.2.1.2 k q (app_l h)⟩, hw.2.2⟩
theorem two_join (hw : inW D A s (wa ++ wb) H locs) {H1 : Heap} (hk : ∀ q : Nat, q < H.size → ¬ va_A wa H.size q → H1[q]? = H[q]?) (hF : ∀ q, va_A wa H.size q → A q) (hP1 : va_P D cls wa' H1) (hD1 : va_D (va_A wa H.size) wa') : va_P D cls (wb ++ wa') H1 ∧ va_D A (wb ++ wa') := by
  have apart : ∀ (k : Nat) (q : Nat × va_E), wb[k]? = some q → q.1 < H.size ∧ ¬ va_A wa H.size q.1 := by
    intro k q hq
    have hl := (hw.1 _ q (app_r hq)).lt
    refine ⟨hl, fun h => ?_⟩
    rcases h with ⟨k2, e, h⟩ | h
    · have hij := hw.2.1.1 _ _ q (q.1, e) (app_r hq) (app_l h) rfl
      have hk2 : k2 < wa.length := (List.getElem?_eq_some_iff.mp h).1
      omega
    · omega
  refine ⟨va_P.app (fun k q hq => ?_) hP1, va_D.app ⟨fun i j x y hx hy hxy => ?_, fun k q h => hw.2.1.2 _ q (app_r h)⟩ (hD1.weaken (fun k q _ h => hF q.1 h)) (fun i j x y hx hy hxy => ?_)⟩
  · obtain ⟨g1, g2⟩ := apart k q hq
    exact (hw.1 _ q (app_r hq)).kept (hk q.1 g1 g2)
  · have := hw.2.1.1 _ _ x y (app_r hx) (app_r hy) hxy
    omega
  · exact (apart i x hx).2 (by rw [hxy]; exact hD1.2 j y hy)
/-- a call on the left one of two worlds, which goes behind the other -/
theorem l_calli (C : mCx p s m args meth c own cc nL ret D cI cJ A) (hw : inW D A s (wa ++ wb) H locs) {y : MethodName} {bytes : ByteArray} {maxL n idx f lc : Nat} {rt : Option FieldType} {b : Nat} {As st0 : List Value} {r : Int32} (hM : Ct l D cI cJ y bytes maxL rt f lc (.ref b :: As) wa wa' r) (hm : isM y bytes maxL rt n) (hl : Cond.methodLink own idx y ∈ gtb) (ho : isO wa b y.cls) (hsz : ls.size = nL) (hn : As.length = n) (hst : st0 = As.reverse ++ .ref b :: rest) (hrest : (rest.map fun v => v.category).sum ≤ 8) (hR : f + 1 ≤ R.frames ∧ 8 + (maxL + 11) + lc ≤ R.locals) (hdg : decode cc pc = .ok (.invokevirtual idx, 3)) (hfc : cells ≤ R.cells ∧ slots ≤ R.slots)
    (kk : ∀ (H : Heap) (locs : List Loc), inW D A s (wb ++ wa') H locs → W p l e R s m args below meth c H locs cells slots Q (F0 m (pc + 3) ls (.int r :: rest))) : W p l e R s m args below meth c H locs cells slots Q (F0 m pc ls st0) := by
  have hwl := inW_l hw
  have hF := g_free C hwl
  refine va_calli (va_runV (g := F0 m pc ls st0) C.1 (hM H.size) (g_cw C hm hl hR) (g_pre C hwl ho) rfl hn hsz hst (lv_room hrest) hdg hfc) hw.2.2 (fun q _ h => hF q h) hF (fun r' u t H1 locs1 ht hvm hp hB hz1 hk1 hS => ?_)
  obtain ⟨hP1, hK1, hD1⟩ := hB
  rw [ht] at hP1
  rw [hp]
  obtain ⟨h1, h2⟩ := two_join hw hk1 hF hP1 hD1
  exact kk H1 locs1 ⟨h1, h2, hS⟩
end L2
theorem arr_at {ty : FieldType} {args : Array Value} {s : State} (h : (Cond.arrayClass ty).before args s = true) : ∃ cA : ClassId, ArrOfT s cA ty ∧ s.vm.findClass ("[" ++ ty.toString) = some cA := by
  obtain ⟨cA, kA, comp, h1, h2, h3⟩ := Cond.arrayClass_spec h
  exact ⟨cA, fun n z => ⟨fun k h => (by cases h), kA, h2, comp, h3⟩, h1⟩
def R_law : String := "RoundTypesLaw"
def lw_P (b : Addr) (xs : List Int32) (args : Array Value) (s : State) : Prop := args = #[.ref b] ∧ s.IntsAt b xs ∧ xs.length ≤ 2048 ∧ (Jvm.Cond.and given_1 narrow_1).before args s = true
def lw_Q (_ : Array Value) (s : State) (o : Outcome) (t : State) : Prop := o = .returned (some (.int 1)) ∧ Framed s o t [] 600000 7302250
def lw_Z (below : List Frame) (a : Array Value) (s : State) : State → Prop := fun t => ∃ o, t.status = .running ∧ Ended t below o ∧ lw_Q a s o t
/-- the law's own end, with 1 on the stack, nothing written that was there before, its room as the claim has it -/
theorem lw_ret {p : Program} {l : Launch} {e : Env} {s : State} {m : MethodId} {below : List Frame} {meth : Method} {c : Code} {b : Nat} (hx : p.tables.exec = Jvm.exec) (hb : c.code = code) (hr : meth.sig.returnType = ret) (hlocks : meth.locks = false) {pc : Nat} {H : Heap} {ls : Array Slot} (hdg : decode code pc = .ok (.ireturn, 1)) : W p l e room_1 s m #[Value.ref b] below meth c H [] 600000 7302250 (lw_Z below #[Value.ref b] s) (F0 m pc ls [.int 1]) := by
  intro T hT X
  obtain ⟨fs, hret, hrun, hended, hW, hframe⟩ := X.leave (v := some (.int 1)) (hlocks := hlocks) (fun h => by rw [hr] at h; cases h)
  have hmeth' : T.vm.method? m = some meth := X.method'
  refine ⟨T.setFrames fs, ?_, .returned (some (.int 1)), hrun, hended, rfl, ⟨_, rfl⟩, hW, hframe⟩
  jvm_step X.here [X.here.top, hx, hb, hdg, hmeth', hr, ret, narrow_b1]
  (try refine ⟨rfl, ?_⟩); (try refine ⟨rfl, ?_⟩)
  first | (intro acts; rw [hret _ acts rfl rfl rfl]) | rw [hret _ _ rfl rfl rfl]
  exact Steps.refl _
/-- what holds at the law's entry: the machine, the code, the tables' words (any of lw_tbl by 'hts w (by decide +kernel)'), the script of L ints xs at the cell b, what the Statement gives of the start (any of its parts by flat_of_before) -/
def lw_At (p : Program) (s : State) (m : MethodId) (meth : Method) (c : Code) (b L : Nat) (xs : Nat → Int32) : Prop :=
  p.tables.exec = Jvm.exec ∧ c.code = code ∧ meth.sig.returnType = ret ∧ c.maxLocals = 4 ∧ s.vm.findClass R_law = some m.cls ∧ (∀ w ∈ lw_tbl, w.before #[Value.ref b] s = true) ∧ va_X b L xs s s.heap ∧ b < s.heap.size ∧ meth.locks = false ∧ (Jvm.Cond.and given_1 narrow_1).before #[Value.ref b] s = true
/-- the two answer alike, and stay in the relation -/
def sim_clear (Rl : mI → mA → mL → mA → mA → mI → mA → Prop) : Prop := ∀ (iv : mI) (ar : mA) (la : mL) (pA pB : mA) (iw : mI) (aw : mA), Rl iv ar la pA pB iw aw → ∃ (rz : Int32) (ivz : mI) (arz : mA) (laz : mL) (pAz pBz : mA) (iwz : mI) (awz : mA), mX11_clear  iv ar la pA pB = some (rz, ivz, arz, laz, pAz, pBz) ∧ mX12_clear  iw aw = some (rz, iwz, awz) ∧ Rl ivz arz laz pAz pBz iwz awz
/-- the two answer alike, and stay in the relation -/
def sim_feed (Rl : mI → mA → mL → mA → mA → mI → mA → Prop) : Prop := ∀ (a1 : Int32) (iv : mI) (ar : mA) (la : mL) (pA pB : mA) (iw : mI) (aw : mA), Rl iv ar la pA pB iw aw → ∃ (rz : Int32) (ivz : mI) (arz : mA) (laz : mL) (pAz pBz : mA) (iwz : mI) (awz : mA), mX11_feed a1 iv ar la pA pB = some (rz, ivz, arz, laz, pAz, pBz) ∧ mX12_feed a1 iw aw = some (rz, iwz, awz) ∧ Rl ivz arz laz pAz pBz iwz awz
/-- the two answer alike, and stay in the relation -/
def sim_type (Rl : mI → mA → mL → mA → mA → mI → mA → Prop) : Prop := ∀ (iv : mI) (ar : mA) (la : mL) (pA pB : mA) (iw : mI) (aw : mA), Rl iv ar la pA pB iw aw → ∃ (rz : Int32) (ivz : mI) (arz : mA) (laz : mL) (pAz pBz : mA) (iwz : mI) (awz : mA), mX11_type  iv ar la pA pB = some (rz, ivz, arz, laz, pAz, pBz) ∧ mX12_type  iw aw = some (rz, iwz, awz) ∧ Rl ivz arz laz pAz pBz iwz awz
/-- the two answer alike, and stay in the relation -/
def sim_term (Rl : mI → mA → mL → mA → mA → mI → mA → Prop) : Prop := ∀ (iv : mI) (ar : mA) (la : mL) (pA pB : mA) (iw : mI) (aw : mA), Rl iv ar la pA pB iw aw → ∃ (rz : Int32) (ivz : mI) (arz : mA) (laz : mL) (pAz pBz : mA) (iwz : mI) (awz : mA) (qz : Nat), mX11_term  iv ar la pA pB = some (rz, ivz, arz, laz, pAz, pBz, qz) ∧ mX12_term  iw aw = some (rz, iwz, awz) ∧ qz < 4 ∧ (qz = 0 → Rl ivz arz laz pAz pBz iwz awz) ∧ (qz = 1 → Rl ivz arz laz pBz pAz iwz awz) ∧ (qz = 2 → Rl ivz arz laz pAz pBz iwz awz) ∧ (qz = 3 → Rl ivz arz laz pBz pAz iwz awz)
/-- the two answer alike, and stay in the relation -/
def sim_place (Rl : mI → mA → mL → mA → mA → mI → mA → Prop) : Prop := ∀ (iv : mI) (ar : mA) (la : mL) (pA pB : mA) (iw : mI) (aw : mA), Rl iv ar la pA pB iw aw → ∃ (rz : Int32) (ivz : mI) (arz : mA) (laz : mL) (pAz pBz : mA) (iwz : mI) (awz : mA), mX11_place  iv ar la pA pB = some (rz, ivz, arz, laz, pAz, pBz) ∧ mX12_place  iw aw = some (rz, iwz, awz) ∧ Rl ivz arz laz pAz pBz iwz awz
/-- the two answer alike, and stay in the relation -/
def sim_node (Rl : mI → mA → mL → mA → mA → mI → mA → Prop) : Prop := ∀ (a1 a2 : Int32) (iv : mI) (ar : mA) (la : mL) (pA pB : mA) (iw : mI) (aw : mA), Rl iv ar la pA pB iw aw → ∃ (rz : Int32) (ivz : mI) (arz : mA) (laz : mL) (pAz pBz : mA) (iwz : mI) (awz : mA), mX11_node a1 a2 iv ar la pA pB = some (rz, ivz, arz, laz, pAz, pBz) ∧ mX12_node a1 a2 iw aw = some (rz, iwz, awz) ∧ Rl ivz arz laz pAz pBz iwz awz
/-- the two answer alike, and stay in the relation -/
def sim_below (Rl : mI → mA → mL → mA → mA → mI → mA → Prop) : Prop := ∀ (a1 a2 : Int32) (iv : mI) (ar : mA) (la : mL) (pA pB : mA) (iw : mI) (aw : mA), Rl iv ar la pA pB iw aw → ∃ (rz : Int32) (ivz : mI) (arz : mA) (laz : mL) (pAz pBz : mA) (iwz : mI) (awz : mA), mX11_below a1 a2 iv ar la pA pB = some (rz, ivz, arz, laz, pAz, pBz) ∧ mX12_below a1 a2 iw aw = some (rz, iwz, awz) ∧ Rl ivz arz laz pAz pBz iwz awz
/-- the two answer alike, and stay in the relation -/
def sim_depth (Rl : mI → mA → mL → mA → mA → mI → mA → Prop) : Prop := ∀ (a1 a2 : Int32) (iv : mI) (ar : mA) (la : mL) (pA pB : mA) (iw : mI) (aw : mA), Rl iv ar la pA pB iw aw → ∃ (rz : Int32) (ivz : mI) (arz : mA) (laz : mL) (pAz pBz : mA) (iwz : mI) (awz : mA), mX11_depth a1 a2 iv ar la pA pB = some (rz, ivz, arz, laz, pAz, pBz) ∧ mX12_depth a1 a2 iw aw = some (rz, iwz, awz) ∧ Rl ivz arz laz pAz pBz iwz awz
/-- the two answer alike, and stay in the relation -/
def sim_way (Rl : mI → mA → mL → mA → mA → mI → mA → Prop) : Prop := ∀ (a1 a2 a3 : Int32) (iv : mI) (ar : mA) (la : mL) (pA pB : mA) (iw : mI) (aw : mA), Rl iv ar la pA pB iw aw → ∃ (rz : Int32) (ivz : mI) (arz : mA) (laz : mL) (pAz pBz : mA) (iwz : mI) (awz : mA), mX11_way a1 a2 a3 iv ar la pA pB = some (rz, ivz, arz, laz, pAz, pBz) ∧ mX12_way a1 a2 a3 iw aw = some (rz, iwz, awz) ∧ Rl ivz arz laz pAz pBz iwz awz
/-- the two answer alike, and stay in the relation -/
def sim_unite (Rl : mI → mA → mL → mA → mA → mI → mA → Prop) : Prop := ∀ (a1 a2 : Int32) (iv : mI) (ar : mA) (la : mL) (pA pB : mA) (iw : mI) (aw : mA), Rl iv ar la pA pB iw aw → ∃ (rz : Int32) (ivz : mI) (arz : mA) (laz : mL) (pAz pBz : mA) (iwz : mI) (awz : mA), mX11_unite a1 a2 iv ar la pA pB = some (rz, ivz, arz, laz, pAz, pBz) ∧ mX12_unite a1 a2 iw aw = some (rz, iwz, awz) ∧ Rl ivz arz laz pAz pBz iwz awz
/-- the two answer alike, and stay in the relation -/
def sim_meet (Rl : mI → mA → mL → mA → mA → mI → mA → Prop) : Prop := ∀ (a1 a2 : Int32) (iv : mI) (ar : mA) (la : mL) (pA pB : mA) (iw : mI) (aw : mA), Rl iv ar la pA pB iw aw → ∃ (rz : Int32) (ivz : mI) (arz : mA) (laz : mL) (pAz pBz : mA) (iwz : mI) (awz : mA), mX11_meet a1 a2 iv ar la pA pB = some (rz, ivz, arz, laz, pAz, pBz) ∧ mX12_meet a1 a2 iw aw = some (rz, iwz, awz) ∧ Rl ivz arz laz pAz pBz iwz awz
/-- the two answer alike, and stay in the relation -/
def sim_run (Rl : mI → mA → mL → mA → mA → mI → mA → Prop) : Prop := ∀ (a1 : Int32) (iv : mI) (ar : mA) (la : mL) (pA pB : mA) (iw : mI) (aw : mA), Rl iv ar la pA pB iw aw → ∃ (rz : Int32) (ivz : mI) (arz : mA) (laz : mL) (pAz pBz : mA) (iwz : mI) (awz : mA) (qz : Nat), mX11_run a1 iv ar la pA pB = some (rz, ivz, arz, laz, pAz, pBz, qz) ∧ mX12_run a1 iw aw = some (rz, iwz, awz) ∧ qz < 2 ∧ (qz = 0 → Rl ivz arz laz pAz pBz iwz awz) ∧ (qz = 1 → Rl ivz arz laz pAz pBz iwz awz)
/-- the two answer alike, and stay in the relation -/
def sim_value (Rl : mI → mA → mL → mA → mA → mI → mA → Prop) : Prop := ∀ (a1 a2 : Int32) (iv : mI) (ar : mA) (la : mL) (pA pB : mA) (iw : mI) (aw : mA), Rl iv ar la pA pB iw aw → ∃ (rz : Int32) (ivz : mI) (arz : mA) (laz : mL) (pAz pBz : mA) (iwz : mI) (awz : mA), mX11_value a1 a2 iv ar la pA pB = some (rz, ivz, arz, laz, pAz, pBz) ∧ mX12_value a1 a2 iw aw = some (rz, iwz, awz) ∧ Rl ivz arz laz pAz pBz iwz awz
/-- the two answer alike, and stay in the relation -/
def sim_count (Rl : mI → mA → mL → mA → mA → mI → mA → Prop) : Prop := ∀ (a1 : Int32) (iv : mI) (ar : mA) (la : mL) (pA pB : mA) (iw : mI) (aw : mA), Rl iv ar la pA pB iw aw → ∃ (rz : Int32) (ivz : mI) (arz : mA) (laz : mL) (pAz pBz : mA) (iwz : mI) (awz : mA), mX11_count a1 iv ar la pA pB = some (rz, ivz, arz, laz, pAz, pBz) ∧ mX12_count a1 iw aw = some (rz, iwz, awz) ∧ Rl ivz arz laz pAz pBz iwz awz
def simAll (Rl : mI → mA → mL → mA → mA → mI → mA → Prop) : Prop := sim_clear Rl ∧ sim_feed Rl ∧ sim_type Rl ∧ sim_term Rl ∧ sim_place Rl ∧ sim_node Rl ∧ sim_below Rl ∧ sim_depth Rl ∧ sim_way Rl ∧ sim_unite Rl ∧ sim_meet Rl ∧ sim_run Rl ∧ sim_value Rl ∧ sim_count Rl
theorem lkL_13 : Cond.methodLink RL 13 yX11_clear ∈ gtb := in_gtb 466 (by decide +kernel) (by decide +kernel)
theorem lkL_18 : Cond.methodLink RL 18 yX11_feed ∈ gtb := in_gtb 490 (by decide +kernel) (by decide +kernel)
theorem lkL_23 : Cond.methodLink RL 23 yX11_type ∈ gtb := in_gtb 498 (by decide +kernel) (by decide +kernel)
theorem lkL_27 : Cond.methodLink RL 27 yX11_term ∈ gtb := in_gtb 584 (by decide +kernel) (by decide +kernel)
theorem lkL_31 : Cond.methodLink RL 31 yX11_place ∈ gtb := in_gtb 847 (by decide +kernel) (by decide +kernel)
theorem lkL_35 : Cond.methodLink RL 35 yX11_node ∈ gtb := in_gtb 851 (by decide +kernel) (by decide +kernel)
theorem lkL_40 : Cond.methodLink RL 40 yX11_below ∈ gtb := in_gtb 862 (by decide +kernel) (by decide +kernel)
theorem lkL_44 : Cond.methodLink RL 44 yX11_depth ∈ gtb := in_gtb 867 (by decide +kernel) (by decide +kernel)
theorem lkL_48 : Cond.methodLink RL 48 yX11_way ∈ gtb := in_gtb 884 (by decide +kernel) (by decide +kernel)
theorem lkL_53 : Cond.methodLink RL 53 yX11_unite ∈ gtb := in_gtb 893 (by decide +kernel) (by decide +kernel)
theorem lkL_57 : Cond.methodLink RL 57 yX11_meet ∈ gtb := in_gtb 898 (by decide +kernel) (by decide +kernel)
theorem lkL_61 : Cond.methodLink RL 61 yX11_run ∈ gtb := in_gtb 902 (by decide +kernel) (by decide +kernel)
theorem lkL_65 : Cond.methodLink RL 65 yX11_value ∈ gtb := in_gtb 1017 (by decide +kernel) (by decide +kernel)
theorem lkL_69 : Cond.methodLink RL 69 yX11_count ∈ gtb := in_gtb 1032 (by decide +kernel) (by decide +kernel)
theorem lkL_17 : Cond.methodLink RL 17 yX12_clear ∈ gtb := in_gtb 1285 (by decide +kernel) (by decide +kernel)
theorem lkL_22 : Cond.methodLink RL 22 yX12_feed ∈ gtb := in_gtb 1289 (by decide +kernel) (by decide +kernel)
theorem lkL_26 : Cond.methodLink RL 26 yX12_type ∈ gtb := in_gtb 1293 (by decide +kernel) (by decide +kernel)
theorem lkL_43 : Cond.methodLink RL 43 yX12_below ∈ gtb := in_gtb 1336 (by decide +kernel) (by decide +kernel)
theorem lkL_47 : Cond.methodLink RL 47 yX12_depth ∈ gtb := in_gtb 1376 (by decide +kernel) (by decide +kernel)
theorem lkL_52 : Cond.methodLink RL 52 yX12_way ∈ gtb := in_gtb 1380 (by decide +kernel) (by decide +kernel)
theorem lkL_56 : Cond.methodLink RL 56 yX12_unite ∈ gtb := in_gtb 1384 (by decide +kernel) (by decide +kernel)
theorem lkL_60 : Cond.methodLink RL 60 yX12_meet ∈ gtb := in_gtb 1408 (by decide +kernel) (by decide +kernel)
theorem lkL_34 : Cond.methodLink RL 34 yX12_place ∈ gtb := in_gtb 1412 (by decide +kernel) (by decide +kernel)
theorem lkL_39 : Cond.methodLink RL 39 yX12_node ∈ gtb := in_gtb 1416 (by decide +kernel) (by decide +kernel)
theorem lkL_30 : Cond.methodLink RL 30 yX12_term ∈ gtb := in_gtb 1420 (by decide +kernel) (by decide +kernel)
theorem lkL_64 : Cond.methodLink RL 64 yX12_run ∈ gtb := in_gtb 1505 (by decide +kernel) (by decide +kernel)
theorem lkL_68 : Cond.methodLink RL 68 yX12_value ∈ gtb := in_gtb 1541 (by decide +kernel) (by decide +kernel)
theorem lkL_72 : Cond.methodLink RL 72 yX12_count ∈ gtb := in_gtb 1545 (by decide +kernel) (by decide +kernel)
theorem lw_more {L i : Nat} (hL : L ≤ 2048) (hi : i ≤ L + 4) (h : ¬ (Int32.ofNat L - 4 < nI i)) : i + 4 ≤ L := by
  have h1 : (Int32.ofNat L - 4).toInt = (L : Int) - 4 := by
    rw [show Int32.ofNat L = nI L from rfl, show (4 : Int32) = nI 4 from rfl]
    exact pk_sub_toInt (by omega) (by decide)
  rw [Int32.lt_iff_toInt_lt, h1, nI_toInt (by omega)] at h
  omega
