section
variable {l : Launch} {p : Program} {e : Env} {s : State} {m : MethodId} {args : Array Value} {below : List Frame} {meth : Method} {c : Code} {D : va_G} {cI cJ : ClassId} {A : Nat → Prop} {oc ac : Nat → Nat} {pa pb : Nat} {aa ab : Nat → Nat} {xp xs tp cp mp : Nat}
def mX2_push (a1 : Int32) (iv : mI) (ar : mA) (la : mL) (pA : mA) (pB : mA) : Option (Int32 × mI × mA × mL × mA × mA) := if 200 ≤ (iv 208) then some (0, iv, ar, la, pA, pB) else if (iv 208) < 0 ∨ 200 ≤ (iv 208).toNatClampNeg then none else if (iv 208) < 0 ∨ 200 ≤ (iv 208).toNatClampNeg then none else some (0, va_up iv 208 ((iv 208) + 1), au (au ar 206 (iv 208).toNatClampNeg a1) 207 (iv 208).toNatClampNeg 0, la, pA, pB)
set_option maxRecDepth 100000 in
set_option maxHeartbeats 4000000 in
theorem kX2_push {a1 : Int32} {iv ivz : mI} {ar arz : mA} {la laz : mL} {pA pAz : mA} {pB pBz : mA} {rz : Int32} (hm : mX2_push a1 iv ar la pA pB = some (rz, ivz, arz, laz, pAz, pBz)) : CtV l D cI cJ yX2_push cX2_push 2 0 0 [.ref (oc 2), .int a1] (wC cI cJ oc ac pa pb aa ab xp xs tp pb mp iv ar la pA pB) (wC cI cJ oc ac pa pb aa ab xp xs tp pb mp ivz arz laz pAz pBz) := by
  intro sz
  refine ct_of (by decide) (Nat.le_of_ble_eq_true rfl) ?_
  intro p e s m args below meth c C hw ls hl
  have hl : lv_has ls 2 [(0, .ref (oc 2)), (1, .int a1)] := hl
  have hx := C.1.1
  have hb := C.1.2.1
  unfold mX2_push at hm
  refine lv_aload_n hx hb dX2_push_0 rfl (lv_at hl 0 rfl) ?_
  refine g_get C hw gC2_8 dX2_push_1 ?_
  refine lv_sipush (v := 200) hx hb dX2_push_4 cs_200 ?_
  refine lv_icmp_ge (tgt := 40) hx hb dX2_push_7 (by decide) (fun hc => ?_) (fun hc => ?_)
  · have hm := it_t hc hm
    cases hm
    exact g_vret C hw dX2_push_40
  · have hm := it_f hc hm
    refine lv_aload_n hx hb dX2_push_10 rfl (lv_at hl 0 rfl) ?_
    refine g_get C hw gC2_6 dX2_push_11 ?_
    refine lv_aload_n hx hb dX2_push_14 rfl (lv_at hl 0 rfl) ?_
    refine g_get C hw gC2_8 dX2_push_15 ?_
    refine lv_iload_n hx hb dX2_push_18 rfl (lv_at hl 1 rfl) ?_
    obtain ⟨hi, hm⟩ := it_a hm
    refine g_ast C hw sC2_6 hi dX2_push_19 (fun H locs hw => ?_)
    refine lv_aload_n hx hb dX2_push_20 rfl (lv_at hl 0 rfl) ?_
    refine g_get C hw gC2_7 dX2_push_21 ?_
    refine lv_aload_n hx hb dX2_push_24 rfl (lv_at hl 0 rfl) ?_
    refine g_get C hw gC2_8 dX2_push_25 ?_
    refine lv_iconst (v := 0) hx hb dX2_push_28 ci_0 ?_
    obtain ⟨hi, hm⟩ := it_a hm
    refine g_ast C hw sC2_7 hi dX2_push_29 (fun H locs hw => ?_)
    refine lv_aload_n hx hb dX2_push_30 rfl (lv_at hl 0 rfl) ?_
    refine lv_dup hx hb dX2_push_31 rfl ?_
    refine g_get C hw gC2_8 dX2_push_32 ?_
    refine lv_iconst (v := 1) hx hb dX2_push_35 ci_1 ?_
    refine lv_iadd hx hb dX2_push_36 ?_
    refine g_put C hw pC2_8 dX2_push_37 (fun H locs hw => ?_)
    cases hm
    exact g_vret C hw dX2_push_40
def mX6_kidCountB (a1 : Int32) (iv : mI) (ar : mA) (la : mL) (pA : mA) (pB : mA) : Option (Int32 × mI × mA × mL × mA × mA) := if a1 < 0 then some (0, iv, ar, la, pA, pB) else if 200 ≤ a1 then some (0, iv, ar, la, pA, pB) else if a1 < 0 ∨ 200 ≤ a1.toNatClampNeg then none else some ((pB 2 a1.toNatClampNeg), iv, ar, la, pA, pB)
set_option maxRecDepth 100000 in
set_option maxHeartbeats 4000000 in
theorem kX6_kidCountB {a1 : Int32} {iv ivz : mI} {ar arz : mA} {la laz : mL} {pA pAz : mA} {pB pBz : mA} {rz : Int32} (hm : mX6_kidCountB a1 iv ar la pA pB = some (rz, ivz, arz, laz, pAz, pBz)) : Ct l D cI cJ yX6_kidCount cX6_kidCount 2 (some .int) 0 0 [.ref pb, .int a1] (wC cI cJ oc ac pa pb aa ab xp xs tp cp mp iv ar la pA pB) (wC cI cJ oc ac pa pb aa ab xp xs tp cp mp ivz arz laz pAz pBz) rz := by
  intro sz
  refine ct_of (by decide) (Nat.le_of_ble_eq_true rfl) ?_
  intro p e s m args below meth c C hw ls hl
  have hl : lv_has ls 2 [(0, .ref pb), (1, .int a1)] := hl
  have hx := C.1.1
  have hb := C.1.2.1
  unfold mX6_kidCountB at hm
  refine lv_iload_n hx hb dX6_kidCount_0 rfl (lv_at hl 1 rfl) ?_
  refine lv_if_lt (tgt := 20) hx hb dX6_kidCount_1 (by decide) (fun hc => ?_) (fun hc => ?_)
  · have hm := it_t hc hm
    refine lv_iconst (v := 0) hx hb dX6_kidCount_20 ci_0 ?_
    cases hm
    exact g_iret C hw dX6_kidCount_21
  · have hm := it_f hc hm
    refine lv_iload_n hx hb dX6_kidCount_4 rfl (lv_at hl 1 rfl) ?_
    refine lv_sipush (v := 200) hx hb dX6_kidCount_5 cs_200 ?_
    refine lv_icmp_ge (tgt := 20) hx hb dX6_kidCount_8 (by decide) (fun hc => ?_) (fun hc => ?_)
    · have hm := it_t hc hm
      refine lv_iconst (v := 0) hx hb dX6_kidCount_20 ci_0 ?_
      cases hm
      exact g_iret C hw dX6_kidCount_21
    · have hm := it_f hc hm
      refine lv_aload_n hx hb dX6_kidCount_11 rfl (lv_at hl 0 rfl) ?_
      refine g_get C hw gC6B_2 dX6_kidCount_12 ?_
      refine lv_iload_n hx hb dX6_kidCount_15 rfl (lv_at hl 1 rfl) ?_
      obtain ⟨hi, hm⟩ := it_a hm
      refine g_ald C hw aC6B_2 hi dX6_kidCount_16 ?_
      refine lv_goto (tgt := 21) hx hb dX6_kidCount_17 (by decide) ?_
      cases hm
      exact g_iret C hw dX6_kidCount_21
def mX6_kidB_J26 (l1 : Int32) (l2 : Int32) (s0 : Int32) (iv : mI) (ar : mA) (la : mL) (pA : mA) (pB : mA) : Option (Int32 × mI × mA × mL × mA × mA) := if s0 = 0 then some ((-1), iv, ar, la, pA, pB) else if l1 < 0 ∨ 200 ≤ l1.toNatClampNeg then none else if (pB 2 l1.toNatClampNeg) ≤ l2 then some ((-1), iv, ar, la, pA, pB) else if ((l1 * 9) + l2) < 0 ∨ 1800 ≤ ((l1 * 9) + l2).toNatClampNeg then none else some ((pB 1 ((l1 * 9) + l2).toNatClampNeg), iv, ar, la, pA, pB)
set_option maxRecDepth 100000 in
set_option maxHeartbeats 4000000 in
theorem wX6_kidB_J26 (C : mCx p s m args meth c RX6 cX6_kid 4 (some .int) D cI cJ A) : ∀ (l1 : Int32) (l2 : Int32) (s0 : Int32) (iv : mI) (ar : mA) (la : mL) (pA : mA) (pB : mA) (rz : Int32) (ivz : mI) (arz : mA) (laz : mL) (pAz : mA) (pBz : mA), mX6_kidB_J26 l1 l2 s0 iv ar la pA pB = some (rz, ivz, arz, laz, pAz, pBz) → ∀ (H : Heap) (locs : List Loc) (ls : Array Slot), lv_has ls 4 [(0, .ref pb), (1, .int l1), (2, .int l2)] → inW D A s (wC cI cJ oc ac pa pb aa ab xp xs tp cp mp iv ar la pA pB) H locs → W p l e (rmO 0 0) s m args below meth c H locs 0 0 (MQ below (ctQ D cI cJ (wC cI cJ oc ac pa pb aa ab xp xs tp cp mp ivz arz laz pAz pBz) A rz) args s 0 0 A) (F0 m 26 ls [.int s0]) := by
  intro l1 l2 s0 iv ar la pA pB rz ivz arz laz pAz pBz hm H locs ls hl hw
  have hx := C.1.1
  have hb := C.1.2.1
  unfold mX6_kidB_J26 at hm
  refine lv_istore_n (lv' := [(3, .int s0), (0, .ref pb), (1, .int l1), (2, .int l2)]) hx hb dX6_kid_26 rfl hl (by decide) rfl (fun ls hl => ?_)
  refine lv_iload_n hx hb dX6_kid_27 rfl (lv_at hl 0 rfl) ?_
  refine lv_if_eq (tgt := 55) hx hb dX6_kid_28 (by decide) (fun hc => ?_) (fun hc => ?_)
  · have hm := it_t hc hm
    refine lv_iconst (v := (-1)) hx hb dX6_kid_55 ci_m1 ?_
    cases hm
    exact g_iret C hw dX6_kid_56
  · have hm := it_f hc hm
    refine lv_iload_n hx hb dX6_kid_31 rfl (lv_at hl 3 rfl) ?_
    refine lv_aload_n hx hb dX6_kid_32 rfl (lv_at hl 1 rfl) ?_
    refine g_get C hw gC6B_2 dX6_kid_33 ?_
    refine lv_iload_n hx hb dX6_kid_36 rfl (lv_at hl 2 rfl) ?_
    obtain ⟨hi, hm⟩ := it_a hm
    refine g_ald C hw aC6B_2 hi dX6_kid_37 ?_
    refine lv_icmp_ge (tgt := 55) hx hb dX6_kid_38 (by decide) (fun hc => ?_) (fun hc => ?_)
    · have hm := it_t hc hm
      refine lv_iconst (v := (-1)) hx hb dX6_kid_55 ci_m1 ?_
      cases hm
      exact g_iret C hw dX6_kid_56
    · have hm := it_f hc hm
      refine lv_aload_n hx hb dX6_kid_41 rfl (lv_at hl 1 rfl) ?_
      refine g_get C hw gC6B_1 dX6_kid_42 ?_
      refine lv_iload_n hx hb dX6_kid_45 rfl (lv_at hl 2 rfl) ?_
      refine lv_bipush (v := 9) hx hb dX6_kid_46 cb_9 ?_
      refine lv_imul hx hb dX6_kid_48 ?_
      refine lv_iload_n hx hb dX6_kid_49 rfl (lv_at hl 3 rfl) ?_
      refine lv_iadd hx hb dX6_kid_50 ?_
      obtain ⟨hi, hm⟩ := it_a hm
      refine g_ald C hw aC6B_1 hi dX6_kid_51 ?_
      refine lv_goto (tgt := 56) hx hb dX6_kid_52 (by decide) ?_
      cases hm
      exact g_iret C hw dX6_kid_56
def mX6_kidB (a1 : Int32) (a2 : Int32) (iv : mI) (ar : mA) (la : mL) (pA : mA) (pB : mA) : Option (Int32 × mI × mA × mL × mA × mA) := if a1 < 0 then mX6_kidB_J26 a1 a2 0 iv ar la pA pB else if 200 ≤ a1 then mX6_kidB_J26 a1 a2 0 iv ar la pA pB else if a2 < 0 then mX6_kidB_J26 a1 a2 0 iv ar la pA pB else if 9 ≤ a2 then mX6_kidB_J26 a1 a2 0 iv ar la pA pB else mX6_kidB_J26 a1 a2 1 iv ar la pA pB
set_option maxRecDepth 100000 in
set_option maxHeartbeats 4000000 in
theorem kX6_kidB {a1 a2 : Int32} {iv ivz : mI} {ar arz : mA} {la laz : mL} {pA pAz : mA} {pB pBz : mA} {rz : Int32} (hm : mX6_kidB a1 a2 iv ar la pA pB = some (rz, ivz, arz, laz, pAz, pBz)) : Ct l D cI cJ yX6_kid cX6_kid 4 (some .int) 0 0 [.ref pb, .int a1, .int a2] (wC cI cJ oc ac pa pb aa ab xp xs tp cp mp iv ar la pA pB) (wC cI cJ oc ac pa pb aa ab xp xs tp cp mp ivz arz laz pAz pBz) rz := by
  intro sz
  refine ct_of (by decide) (Nat.le_of_ble_eq_true rfl) ?_
  intro p e s m args below meth c C hw ls hl
  have hl : lv_has ls 4 [(0, .ref pb), (1, .int a1), (2, .int a2)] := hl
  have hx := C.1.1
  have hb := C.1.2.1
  unfold mX6_kidB at hm
  refine lv_iload_n hx hb dX6_kid_0 rfl (lv_at hl 1 rfl) ?_
  refine lv_if_lt (tgt := 25) hx hb dX6_kid_1 (by decide) (fun hc => ?_) (fun hc => ?_)
  · have hm := it_t hc hm
    refine lv_iconst (v := 0) hx hb dX6_kid_25 ci_0 ?_
    exact wX6_kidB_J26 C _ _ _ _ _ _ _ _ _ _ _ _ _ _ hm _ _ _ (lv_sub hl [0, 1, 2] rfl) hw
  · have hm := it_f hc hm
    refine lv_iload_n hx hb dX6_kid_4 rfl (lv_at hl 1 rfl) ?_
    refine lv_sipush (v := 200) hx hb dX6_kid_5 cs_200 ?_
    refine lv_icmp_ge (tgt := 25) hx hb dX6_kid_8 (by decide) (fun hc => ?_) (fun hc => ?_)
    · have hm := it_t hc hm
      refine lv_iconst (v := 0) hx hb dX6_kid_25 ci_0 ?_
      exact wX6_kidB_J26 C _ _ _ _ _ _ _ _ _ _ _ _ _ _ hm _ _ _ (lv_sub hl [0, 1, 2] rfl) hw
    · have hm := it_f hc hm
      refine lv_iload_n hx hb dX6_kid_11 rfl (lv_at hl 2 rfl) ?_
      refine lv_if_lt (tgt := 25) hx hb dX6_kid_12 (by decide) (fun hc => ?_) (fun hc => ?_)
      · have hm := it_t hc hm
        refine lv_iconst (v := 0) hx hb dX6_kid_25 ci_0 ?_
        exact wX6_kidB_J26 C _ _ _ _ _ _ _ _ _ _ _ _ _ _ hm _ _ _ (lv_sub hl [0, 1, 2] rfl) hw
      · have hm := it_f hc hm
        refine lv_iload_n hx hb dX6_kid_15 rfl (lv_at hl 2 rfl) ?_
        refine lv_bipush (v := 9) hx hb dX6_kid_16 cb_9 ?_
        refine lv_icmp_ge (tgt := 25) hx hb dX6_kid_18 (by decide) (fun hc => ?_) (fun hc => ?_)
        · have hm := it_t hc hm
          refine lv_iconst (v := 0) hx hb dX6_kid_25 ci_0 ?_
          exact wX6_kidB_J26 C _ _ _ _ _ _ _ _ _ _ _ _ _ _ hm _ _ _ (lv_sub hl [0, 1, 2] rfl) hw
        · have hm := it_f hc hm
          refine lv_iconst (v := 1) hx hb dX6_kid_21 ci_1 ?_
          refine lv_goto (tgt := 26) hx hb dX6_kid_22 (by decide) ?_
          exact wX6_kidB_J26 C _ _ _ _ _ _ _ _ _ _ _ _ _ _ hm _ _ _ (lv_sub hl [0, 1, 2] rfl) hw
def mX6_kidInTurnB (a1 : Int32) (a2 : Int32) (iv : mI) (ar : mA) (la : mL) (pA : mA) (pB : mA) : Option (Int32 × mI × mA × mL × mA × mA) := obc (mX6_kidCountB a1 iv ar la pA pB) (fun r2 iv2 ar2 la2 pA2 pB2 => obc (mX6_wordB a1 iv2 ar2 la2 pA2 pB2) (fun r8 iv8 ar8 la8 pA8 pB8 => if r8 = 32 then if a2 < r2 then if a2 = 0 then obc (mX6_kidB a1 (r2 - 1) iv8 ar8 la8 pA8 pB8) (fun r37 iv37 ar37 la37 pA37 pB37 => some (r37, iv37, ar37, la37, pA37, pB37)) else obc (mX6_kidB a1 (a2 - 1) iv8 ar8 la8 pA8 pB8) (fun r48 iv48 ar48 la48 pA48 pB48 => some (r48, iv48, ar48, la48, pA48, pB48)) else obc (mX6_kidB a1 a2 iv8 ar8 la8 pA8 pB8) (fun r24 iv24 ar24 la24 pA24 pB24 => some (r24, iv24, ar24, la24, pA24, pB24)) else obc (mX6_kidB a1 a2 iv8 ar8 la8 pA8 pB8) (fun r24 iv24 ar24 la24 pA24 pB24 => some (r24, iv24, ar24, la24, pA24, pB24))))
set_option maxRecDepth 100000 in
set_option maxHeartbeats 4000000 in
theorem kX6_kidInTurnB {a1 a2 : Int32} {iv ivz : mI} {ar arz : mA} {la laz : mL} {pA pAz : mA} {pB pBz : mA} {rz : Int32} (hm : mX6_kidInTurnB a1 a2 iv ar la pA pB = some (rz, ivz, arz, laz, pAz, pBz)) : Ct l D cI cJ yX6_kidInTurn cX6_kidInTurn 4 (some .int) 1 23 [.ref pb, .int a1, .int a2] (wC cI cJ oc ac pa pb aa ab xp xs tp cp mp iv ar la pA pB) (wC cI cJ oc ac pa pb aa ab xp xs tp cp mp ivz arz laz pAz pBz) rz := by
  intro sz
  refine ct_of (by decide) (Nat.le_of_ble_eq_true rfl) ?_
  intro p e s m args below meth c C hw ls hl
  have hl : lv_has ls 4 [(0, .ref pb), (1, .int a1), (2, .int a2)] := hl
  have hx := C.1.1
  have hb := C.1.2.1
  unfold mX6_kidInTurnB at hm
  refine lv_aload_n hx hb dX6_kidInTurn_0 rfl (lv_at hl 0 rfl) ?_
  refine lv_iload_n hx hb dX6_kidInTurn_1 rfl (lv_at hl 1 rfl) ?_
  obtain ⟨r2, iv2, ar2, la2, pA2, pB2, hc2, hm⟩ := obc_some hm
  refine g_calli (As := [.int a1]) (rest := []) C hw (kX6_kidCountB hc2) mtX6_kidCount lkX6_33 oC6B hl.1 rfl rfl (Nat.le_of_ble_eq_true rfl) ⟨Nat.le_of_ble_eq_true rfl, Nat.le_of_ble_eq_true rfl⟩ dX6_kidInTurn_2 ⟨Nat.zero_le _, Nat.zero_le _⟩ (fun H locs hw => ?_)
  refine lv_istore_n (lv' := [(3, .int r2), (0, .ref pb), (1, .int a1), (2, .int a2)]) hx hb dX6_kidInTurn_5 rfl hl (by decide) rfl (fun ls hl => ?_)
  refine lv_aload_n hx hb dX6_kidInTurn_6 rfl (lv_at hl 1 rfl) ?_
  refine lv_iload_n hx hb dX6_kidInTurn_7 rfl (lv_at hl 2 rfl) ?_
  obtain ⟨r8, iv8, ar8, la8, pA8, pB8, hc8, hm⟩ := obc_some hm
  refine g_calli (As := [.int a1]) (rest := []) C hw (kX6_wordB hc8) mtX6_word lkX6_37 oC6B hl.1 rfl rfl (Nat.le_of_ble_eq_true rfl) ⟨Nat.le_of_ble_eq_true rfl, Nat.le_of_ble_eq_true rfl⟩ dX6_kidInTurn_8 ⟨Nat.zero_le _, Nat.zero_le _⟩ (fun H locs hw => ?_)
  refine lv_bipush (v := 32) hx hb dX6_kidInTurn_11 cb_32 ?_
  refine lv_icmp_ne (tgt := 21) hx hb dX6_kidInTurn_13 (by decide) (fun hc => ?_) (fun hc => ?_)
  · have hm := it_f hc hm
    refine lv_aload_n hx hb dX6_kidInTurn_21 rfl (lv_at hl 1 rfl) ?_
    refine lv_iload_n hx hb dX6_kidInTurn_22 rfl (lv_at hl 2 rfl) ?_
    refine lv_iload_n hx hb dX6_kidInTurn_23 rfl (lv_at hl 3 rfl) ?_
    obtain ⟨r24, iv24, ar24, la24, pA24, pB24, hc24, hm⟩ := obc_some hm
    refine g_calli (As := [.int a1, .int a2]) (rest := []) C hw (kX6_kidB hc24) mtX6_kid lkX6_40 oC6B hl.1 rfl rfl (Nat.le_of_ble_eq_true rfl) ⟨Nat.le_of_ble_eq_true rfl, Nat.le_of_ble_eq_true rfl⟩ dX6_kidInTurn_24 ⟨Nat.zero_le _, Nat.zero_le _⟩ (fun H locs hw => ?_)
    cases hm
    exact g_iret C hw dX6_kidInTurn_27
  · have hm := it_t hc hm
    refine lv_iload_n hx hb dX6_kidInTurn_16 rfl (lv_at hl 3 rfl) ?_
    refine lv_iload_n hx hb dX6_kidInTurn_17 rfl (lv_at hl 0 rfl) ?_
    refine lv_icmp_lt (tgt := 28) hx hb dX6_kidInTurn_18 (by decide) (fun hc => ?_) (fun hc => ?_)
    · have hm := it_t hc hm
      refine lv_iload_n hx hb dX6_kidInTurn_28 rfl (lv_at hl 3 rfl) ?_
      refine lv_if_ne (tgt := 43) hx hb dX6_kidInTurn_29 (by decide) (fun hc => ?_) (fun hc => ?_)
      · have hm := it_f hc hm
        refine lv_aload_n hx hb dX6_kidInTurn_43 rfl (lv_at hl 1 rfl) ?_
        refine lv_iload_n hx hb dX6_kidInTurn_44 rfl (lv_at hl 2 rfl) ?_
        refine lv_iload_n hx hb dX6_kidInTurn_45 rfl (lv_at hl 3 rfl) ?_
        refine lv_iconst (v := 1) hx hb dX6_kidInTurn_46 ci_1 ?_
        refine lv_isub hx hb dX6_kidInTurn_47 ?_
        obtain ⟨r48, iv48, ar48, la48, pA48, pB48, hc48, hm⟩ := obc_some hm
        refine g_calli (As := [.int a1, .int (a2 - 1)]) (rest := []) C hw (kX6_kidB hc48) mtX6_kid lkX6_40 oC6B hl.1 rfl rfl (Nat.le_of_ble_eq_true rfl) ⟨Nat.le_of_ble_eq_true rfl, Nat.le_of_ble_eq_true rfl⟩ dX6_kidInTurn_48 ⟨Nat.zero_le _, Nat.zero_le _⟩ (fun H locs hw => ?_)
        cases hm
        exact g_iret C hw dX6_kidInTurn_51
      · have hm := it_t hc hm
        refine lv_aload_n hx hb dX6_kidInTurn_32 rfl (lv_at hl 1 rfl) ?_
        refine lv_iload_n hx hb dX6_kidInTurn_33 rfl (lv_at hl 2 rfl) ?_
        refine lv_iload_n hx hb dX6_kidInTurn_34 rfl (lv_at hl 0 rfl) ?_
        refine lv_iconst (v := 1) hx hb dX6_kidInTurn_35 ci_1 ?_
        refine lv_isub hx hb dX6_kidInTurn_36 ?_
        obtain ⟨r37, iv37, ar37, la37, pA37, pB37, hc37, hm⟩ := obc_some hm
        refine g_calli (As := [.int a1, .int (r2 - 1)]) (rest := []) C hw (kX6_kidB hc37) mtX6_kid lkX6_40 oC6B hl.1 rfl rfl (Nat.le_of_ble_eq_true rfl) ⟨Nat.le_of_ble_eq_true rfl, Nat.le_of_ble_eq_true rfl⟩ dX6_kidInTurn_37 ⟨Nat.zero_le _, Nat.zero_le _⟩ (fun H locs hw => ?_)
        refine lv_goto (tgt := 51) hx hb dX6_kidInTurn_40 (by decide) ?_
        cases hm
        exact g_iret C hw dX6_kidInTurn_51
    · have hm := it_f hc hm
      refine lv_aload_n hx hb dX6_kidInTurn_21 rfl (lv_at hl 1 rfl) ?_
      refine lv_iload_n hx hb dX6_kidInTurn_22 rfl (lv_at hl 2 rfl) ?_
      refine lv_iload_n hx hb dX6_kidInTurn_23 rfl (lv_at hl 3 rfl) ?_
      obtain ⟨r24, iv24, ar24, la24, pA24, pB24, hc24, hm⟩ := obc_some hm
      refine g_calli (As := [.int a1, .int a2]) (rest := []) C hw (kX6_kidB hc24) mtX6_kid lkX6_40 oC6B hl.1 rfl rfl (Nat.le_of_ble_eq_true rfl) ⟨Nat.le_of_ble_eq_true rfl, Nat.le_of_ble_eq_true rfl⟩ dX6_kidInTurn_24 ⟨Nat.zero_le _, Nat.zero_le _⟩ (fun H locs hw => ?_)
      cases hm
      exact g_iret C hw dX6_kidInTurn_27
def mX6_homeB (a1 : Int32) (iv : mI) (ar : mA) (la : mL) (pA : mA) (pB : mA) : Option (Int32 × mI × mA × mL × mA × mA) := if a1 < 0 then some ((-1), iv, ar, la, pA, pB) else if 200 ≤ a1 then some ((-1), iv, ar, la, pA, pB) else if a1 < 0 ∨ 200 ≤ a1.toNatClampNeg then none else some ((pB 4 a1.toNatClampNeg), iv, ar, la, pA, pB)
set_option maxRecDepth 100000 in
set_option maxHeartbeats 4000000 in
theorem kX6_homeB {a1 : Int32} {iv ivz : mI} {ar arz : mA} {la laz : mL} {pA pAz : mA} {pB pBz : mA} {rz : Int32} (hm : mX6_homeB a1 iv ar la pA pB = some (rz, ivz, arz, laz, pAz, pBz)) : Ct l D cI cJ yX6_home cX6_home 2 (some .int) 0 0 [.ref pb, .int a1] (wC cI cJ oc ac pa pb aa ab xp xs tp cp mp iv ar la pA pB) (wC cI cJ oc ac pa pb aa ab xp xs tp cp mp ivz arz laz pAz pBz) rz := by
  intro sz
  refine ct_of (by decide) (Nat.le_of_ble_eq_true rfl) ?_
  intro p e s m args below meth c C hw ls hl
  have hl : lv_has ls 2 [(0, .ref pb), (1, .int a1)] := hl
  have hx := C.1.1
  have hb := C.1.2.1
  unfold mX6_homeB at hm
  refine lv_iload_n hx hb dX6_home_0 rfl (lv_at hl 1 rfl) ?_
  refine lv_if_lt (tgt := 20) hx hb dX6_home_1 (by decide) (fun hc => ?_) (fun hc => ?_)
  · have hm := it_t hc hm
    refine lv_iconst (v := (-1)) hx hb dX6_home_20 ci_m1 ?_
    cases hm
    exact g_iret C hw dX6_home_21
  · have hm := it_f hc hm
    refine lv_iload_n hx hb dX6_home_4 rfl (lv_at hl 1 rfl) ?_
    refine lv_sipush (v := 200) hx hb dX6_home_5 cs_200 ?_
    refine lv_icmp_ge (tgt := 20) hx hb dX6_home_8 (by decide) (fun hc => ?_) (fun hc => ?_)
    · have hm := it_t hc hm
      refine lv_iconst (v := (-1)) hx hb dX6_home_20 ci_m1 ?_
      cases hm
      exact g_iret C hw dX6_home_21
    · have hm := it_f hc hm
      refine lv_aload_n hx hb dX6_home_11 rfl (lv_at hl 0 rfl) ?_
      refine g_get C hw gC6B_4 dX6_home_12 ?_
      refine lv_iload_n hx hb dX6_home_15 rfl (lv_at hl 1 rfl) ?_
      obtain ⟨hi, hm⟩ := it_a hm
      refine g_ald C hw aC6B_4 hi dX6_home_16 ?_
      refine lv_goto (tgt := 21) hx hb dX6_home_17 (by decide) ?_
      cases hm
      exact g_iret C hw dX6_home_21
def mX2_typeOfVariable (a1 : Int32) (iv : mI) (ar : mA) (la : mL) (pA : mA) (pB : mA) : Option (Int32 × mI × mA × mL × mA × mA) := if a1 < 0 then some ((-15), iv, ar, la, pA, pB) else if 200 ≤ a1 then some ((-15), iv, ar, la, pA, pB) else if a1 < 0 ∨ 200 ≤ a1.toNatClampNeg then none else some ((ar 205 a1.toNatClampNeg), iv, ar, la, pA, pB)
set_option maxRecDepth 100000 in
set_option maxHeartbeats 4000000 in
theorem kX2_typeOfVariable {a1 : Int32} {iv ivz : mI} {ar arz : mA} {la laz : mL} {pA pAz : mA} {pB pBz : mA} {rz : Int32} (hm : mX2_typeOfVariable a1 iv ar la pA pB = some (rz, ivz, arz, laz, pAz, pBz)) : Ct l D cI cJ yX2_typeOfVariable cX2_typeOfVariable 2 (some .int) 0 0 [.ref (oc 2), .int a1] (wC cI cJ oc ac pa pb aa ab xp xs tp pb mp iv ar la pA pB) (wC cI cJ oc ac pa pb aa ab xp xs tp pb mp ivz arz laz pAz pBz) rz := by
  intro sz
  refine ct_of (by decide) (Nat.le_of_ble_eq_true rfl) ?_
  intro p e s m args below meth c C hw ls hl
  have hl : lv_has ls 2 [(0, .ref (oc 2)), (1, .int a1)] := hl
  have hx := C.1.1
  have hb := C.1.2.1
  unfold mX2_typeOfVariable at hm
  refine lv_iload_n hx hb dX2_typeOfVariable_0 rfl (lv_at hl 1 rfl) ?_
  refine lv_if_lt (tgt := 20) hx hb dX2_typeOfVariable_1 (by decide) (fun hc => ?_) (fun hc => ?_)
  · have hm := it_t hc hm
    refine lv_bipush (v := (-15)) hx hb dX2_typeOfVariable_20 cb_m15 ?_
    cases hm
    exact g_iret C hw dX2_typeOfVariable_22
  · have hm := it_f hc hm
    refine lv_iload_n hx hb dX2_typeOfVariable_4 rfl (lv_at hl 1 rfl) ?_
    refine lv_sipush (v := 200) hx hb dX2_typeOfVariable_5 cs_200 ?_
    refine lv_icmp_ge (tgt := 20) hx hb dX2_typeOfVariable_8 (by decide) (fun hc => ?_) (fun hc => ?_)
    · have hm := it_t hc hm
      refine lv_bipush (v := (-15)) hx hb dX2_typeOfVariable_20 cb_m15 ?_
      cases hm
      exact g_iret C hw dX2_typeOfVariable_22
    · have hm := it_f hc hm
      refine lv_aload_n hx hb dX2_typeOfVariable_11 rfl (lv_at hl 0 rfl) ?_
      refine g_get C hw gC2_5 dX2_typeOfVariable_12 ?_
      refine lv_iload_n hx hb dX2_typeOfVariable_15 rfl (lv_at hl 1 rfl) ?_
      obtain ⟨hi, hm⟩ := it_a hm
      refine g_ald C hw aC2_5 hi dX2_typeOfVariable_16 ?_
      refine lv_goto (tgt := 22) hx hb dX2_typeOfVariable_17 (by decide) ?_
      cases hm
      exact g_iret C hw dX2_typeOfVariable_22
def mX2_typeIn (a1 : Int32) (a2 : Int32) (iv : mI) (ar : mA) (la : mL) (pA : mA) (pB : mA) : Option (Int32 × mI × mA × mL × mA × mA) := obc (mX6_kidB a1 a2 iv ar la pA pB) (fun r6 iv6 ar6 la6 pA6 pB6 => if r6 < 0 then some ((-1), iv6, ar6, la6, pA6, pB6) else if 200 ≤ r6 then some ((-1), iv6, ar6, la6, pA6, pB6) else if r6 < 0 ∨ 200 ≤ r6.toNatClampNeg then none else some ((ar6 204 r6.toNatClampNeg), iv6, ar6, la6, pA6, pB6))
set_option maxRecDepth 100000 in
set_option maxHeartbeats 4000000 in
theorem kX2_typeIn {a1 a2 : Int32} {iv ivz : mI} {ar arz : mA} {la laz : mL} {pA pAz : mA} {pB pBz : mA} {rz : Int32} (hm : mX2_typeIn a1 a2 iv ar la pA pB = some (rz, ivz, arz, laz, pAz, pBz)) : Ct l D cI cJ yX2_typeIn cX2_typeIn 4 (some .int) 1 23 [.ref (oc 2), .int a1, .int a2] (wC cI cJ oc ac pa pb aa ab xp xs tp pb mp iv ar la pA pB) (wC cI cJ oc ac pa pb aa ab xp xs tp pb mp ivz arz laz pAz pBz) rz := by
  intro sz
  refine ct_of (by decide) (Nat.le_of_ble_eq_true rfl) ?_
  intro p e s m args below meth c C hw ls hl
  have hl : lv_has ls 4 [(0, .ref (oc 2)), (1, .int a1), (2, .int a2)] := hl
  have hx := C.1.1
  have hb := C.1.2.1
  unfold mX2_typeIn at hm
  refine lv_aload_n hx hb dX2_typeIn_0 rfl (lv_at hl 0 rfl) ?_
  refine g_get C hw gC2_3 dX2_typeIn_1 ?_
  refine lv_iload_n hx hb dX2_typeIn_4 rfl (lv_at hl 1 rfl) ?_
  refine lv_iload_n hx hb dX2_typeIn_5 rfl (lv_at hl 2 rfl) ?_
  obtain ⟨r6, iv6, ar6, la6, pA6, pB6, hc6, hm⟩ := obc_some hm
  refine g_calli (As := [.int a1, .int a2]) (rest := []) C hw (kX6_kidB hc6) mtX6_kid lkX2_98 oC6B hl.1 rfl rfl (Nat.le_of_ble_eq_true rfl) ⟨Nat.le_of_ble_eq_true rfl, Nat.le_of_ble_eq_true rfl⟩ dX2_typeIn_6 ⟨Nat.zero_le _, Nat.zero_le _⟩ (fun H locs hw => ?_)
  refine lv_istore_n (lv' := [(3, .int r6), (0, .ref (oc 2)), (1, .int a1), (2, .int a2)]) hx hb dX2_typeIn_9 rfl hl (by decide) rfl (fun ls hl => ?_)
  refine lv_iload_n hx hb dX2_typeIn_10 rfl (lv_at hl 0 rfl) ?_
  refine lv_if_lt (tgt := 30) hx hb dX2_typeIn_11 (by decide) (fun hc => ?_) (fun hc => ?_)
  · have hm := it_t hc hm
    refine lv_iconst (v := (-1)) hx hb dX2_typeIn_30 ci_m1 ?_
    cases hm
    exact g_iret C hw dX2_typeIn_31
  · have hm := it_f hc hm
    refine lv_iload_n hx hb dX2_typeIn_14 rfl (lv_at hl 0 rfl) ?_
    refine lv_sipush (v := 200) hx hb dX2_typeIn_15 cs_200 ?_
    refine lv_icmp_ge (tgt := 30) hx hb dX2_typeIn_18 (by decide) (fun hc => ?_) (fun hc => ?_)
    · have hm := it_t hc hm
      refine lv_iconst (v := (-1)) hx hb dX2_typeIn_30 ci_m1 ?_
      cases hm
      exact g_iret C hw dX2_typeIn_31
    · have hm := it_f hc hm
      refine lv_aload_n hx hb dX2_typeIn_21 rfl (lv_at hl 1 rfl) ?_
      refine g_get C hw gC2_4 dX2_typeIn_22 ?_
      refine lv_iload_n hx hb dX2_typeIn_25 rfl (lv_at hl 0 rfl) ?_
      obtain ⟨hi, hm⟩ := it_a hm
      refine g_ald C hw aC2_4 hi dX2_typeIn_26 ?_
      refine lv_goto (tgt := 31) hx hb dX2_typeIn_27 (by decide) ?_
      cases hm
      exact g_iret C hw dX2_typeIn_31
def mX3_make (a1 : Int32) (iv : mI) (ar : mA) (la : mL) (pA : mA) (pB : mA) : Option (Int32 × mI × mA × mL × mA × mA) := if 200 ≤ (iv 303) then some ((-3), iv, ar, la, pA, pB) else obc (mX3_draft a1 iv ar la pA pB) (fun r12 iv12 ar12 la12 pA12 pB12 => some (r12, iv12, ar12, la12, pA12, pB12))
set_option maxRecDepth 100000 in
set_option maxHeartbeats 4000000 in
theorem kX3_make {a1 : Int32} {iv ivz : mI} {ar arz : mA} {la laz : mL} {pA pAz : mA} {pB pBz : mA} {rz : Int32} (hm : mX3_make a1 iv ar la pA pB = some (rz, ivz, arz, laz, pAz, pBz)) : Ct l D cI cJ yX3_make cX3_make 2 (some .int) 1 21 [.ref (oc 3), .int a1] (wC cI cJ oc ac pa pb aa ab xp xs tp cp mp iv ar la pA pB) (wC cI cJ oc ac pa pb aa ab xp xs tp cp mp ivz arz laz pAz pBz) rz := by
  intro sz
  refine ct_of (by decide) (Nat.le_of_ble_eq_true rfl) ?_
  intro p e s m args below meth c C hw ls hl
  have hl : lv_has ls 2 [(0, .ref (oc 3)), (1, .int a1)] := hl
  have hx := C.1.1
  have hb := C.1.2.1
  unfold mX3_make at hm
  refine lv_aload_n hx hb dX3_make_0 rfl (lv_at hl 0 rfl) ?_
  refine g_get C hw gC3_3 dX3_make_1 ?_
  refine lv_sipush (v := 200) hx hb dX3_make_4 cs_200 ?_
  refine lv_icmp_ge (tgt := 18) hx hb dX3_make_7 (by decide) (fun hc => ?_) (fun hc => ?_)
  · have hm := it_t hc hm
    refine lv_bipush (v := (-3)) hx hb dX3_make_18 cb_m3 ?_
    cases hm
    exact g_iret C hw dX3_make_20
  · have hm := it_f hc hm
    refine lv_aload_n hx hb dX3_make_10 rfl (lv_at hl 0 rfl) ?_
    refine lv_iload_n hx hb dX3_make_11 rfl (lv_at hl 1 rfl) ?_
    obtain ⟨r12, iv12, ar12, la12, pA12, pB12, hc12, hm⟩ := obc_some hm
    refine g_calli (As := [.int a1]) (rest := []) C hw (kX3_draft hc12) mtX3_draft lkX3_25 oC3 hl.1 rfl rfl (Nat.le_of_ble_eq_true rfl) ⟨Nat.le_of_ble_eq_true rfl, Nat.le_of_ble_eq_true rfl⟩ dX3_make_12 ⟨Nat.zero_le _, Nat.zero_le _⟩ (fun H locs hw => ?_)
    refine lv_goto (tgt := 20) hx hb dX3_make_15 (by decide) ?_
    cases hm
    exact g_iret C hw dX3_make_20
def mX2_typeOfLambda (a1 : Int32) (a2 : Int32) (iv : mI) (ar : mA) (la : mL) (pA : mA) (pB : mA) : Option (Int32 × mI × mA × mL × mA × mA) := obc (mX3_make 4 iv ar la pA pB) (fun r5 iv5 ar5 la5 pA5 pB5 => obc (mX3_setPart r5 0 a1 iv5 ar5 la5 pA5 pB5) (fun r16 iv16 ar16 la16 pA16 pB16 => obc (mX3_setPart r5 1 a2 iv16 ar16 la16 pA16 pB16) (fun r26 iv26 ar26 la26 pA26 pB26 => some (r5, iv26, ar26, la26, pA26, pB26))))
set_option maxRecDepth 100000 in
set_option maxHeartbeats 4000000 in
theorem kX2_typeOfLambda {a1 a2 : Int32} {iv ivz : mI} {ar arz : mA} {la laz : mL} {pA pAz : mA} {pB pBz : mA} {rz : Int32} (hm : mX2_typeOfLambda a1 a2 iv ar la pA pB = some (rz, ivz, arz, laz, pAz, pBz)) : Ct l D cI cJ yX2_typeOfLambda cX2_typeOfLambda 4 (some .int) 2 42 [.ref (oc 2), .int a1, .int a2] (wC cI cJ oc ac pa pb aa ab xp xs tp pb mp iv ar la pA pB) (wC cI cJ oc ac pa pb aa ab xp xs tp pb mp ivz arz laz pAz pBz) rz := by
  intro sz
  refine ct_of (by decide) (Nat.le_of_ble_eq_true rfl) ?_
  intro p e s m args below meth c C hw ls hl
  have hl : lv_has ls 4 [(0, .ref (oc 2)), (1, .int a1), (2, .int a2)] := hl
  have hx := C.1.1
  have hb := C.1.2.1
  unfold mX2_typeOfLambda at hm
  refine lv_aload_n hx hb dX2_typeOfLambda_0 rfl (lv_at hl 0 rfl) ?_
  refine g_get C hw gC2_0 dX2_typeOfLambda_1 ?_
  refine lv_iconst (v := 4) hx hb dX2_typeOfLambda_4 ci_4 ?_
  obtain ⟨r5, iv5, ar5, la5, pA5, pB5, hc5, hm⟩ := obc_some hm
  refine g_calli (As := [.int 4]) (rest := []) C hw (kX3_make hc5) mtX3_make lkX2_95 oC3 hl.1 rfl rfl (Nat.le_of_ble_eq_true rfl) ⟨Nat.le_of_ble_eq_true rfl, Nat.le_of_ble_eq_true rfl⟩ dX2_typeOfLambda_5 ⟨Nat.zero_le _, Nat.zero_le _⟩ (fun H locs hw => ?_)
  refine lv_istore_n (lv' := [(3, .int r5), (0, .ref (oc 2)), (1, .int a1), (2, .int a2)]) hx hb dX2_typeOfLambda_8 rfl hl (by decide) rfl (fun ls hl => ?_)
  refine lv_aload_n hx hb dX2_typeOfLambda_9 rfl (lv_at hl 1 rfl) ?_
  refine g_get C hw gC2_0 dX2_typeOfLambda_10 ?_
  refine lv_iload_n hx hb dX2_typeOfLambda_13 rfl (lv_at hl 0 rfl) ?_
  refine lv_iconst (v := 0) hx hb dX2_typeOfLambda_14 ci_0 ?_
  refine lv_iload_n hx hb dX2_typeOfLambda_15 rfl (lv_at hl 2 rfl) ?_
  obtain ⟨r16, iv16, ar16, la16, pA16, pB16, hc16, hm⟩ := obc_some hm
  refine g_callv (As := [.int r5, .int 0, .int a1]) (rest := []) C hw (kX3_setPart hc16) mtX3_setPart lkX2_141 oC3 hl.1 rfl rfl (Nat.le_of_ble_eq_true rfl) ⟨Nat.le_of_ble_eq_true rfl, Nat.le_of_ble_eq_true rfl⟩ dX2_typeOfLambda_16 ⟨Nat.zero_le _, Nat.zero_le _⟩ (fun H locs hw => ?_)
  refine lv_aload_n hx hb dX2_typeOfLambda_19 rfl (lv_at hl 1 rfl) ?_
  refine g_get C hw gC2_0 dX2_typeOfLambda_20 ?_
  refine lv_iload_n hx hb dX2_typeOfLambda_23 rfl (lv_at hl 0 rfl) ?_
  refine lv_iconst (v := 1) hx hb dX2_typeOfLambda_24 ci_1 ?_
  refine lv_iload_n hx hb dX2_typeOfLambda_25 rfl (lv_at hl 3 rfl) ?_
  obtain ⟨r26, iv26, ar26, la26, pA26, pB26, hc26, hm⟩ := obc_some hm
  refine g_callv (As := [.int r5, .int 1, .int a2]) (rest := []) C hw (kX3_setPart hc26) mtX3_setPart lkX2_141 oC3 hl.1 rfl rfl (Nat.le_of_ble_eq_true rfl) ⟨Nat.le_of_ble_eq_true rfl, Nat.le_of_ble_eq_true rfl⟩ dX2_typeOfLambda_26 ⟨Nat.zero_le _, Nat.zero_le _⟩ (fun H locs hw => ?_)
  refine lv_iload_n hx hb dX2_typeOfLambda_29 rfl (lv_at hl 0 rfl) ?_
  cases hm
  exact g_iret C hw dX2_typeOfLambda_30
def mX5_forget_L2 : Nat → Int32 → mI → mA → mL → mA → mA → Option (Int32 × mI × mA × mL × mA × mA)
  | 0, _, _, _, _, _, _ => none
  | n + 1, l1, iv, ar, la, pA, pB => if (iv 503) ≤ l1 then some (0, va_up iv 503 0, ar, la, pA, pB) else if 40000 ≤ l1 then some (0, va_up iv 503 0, ar, la, pA, pB) else if l1 < 0 ∨ 40000 ≤ l1.toNatClampNeg then none else if l1 < 0 ∨ 40000 ≤ l1.toNatClampNeg then none else if 40000 ≤ ((((((la 501 l1.toNatClampNeg) >>> (Int32.toInt64 8 &&& 63)) &&& 255).toInt32) * 200) + (((la 501 l1.toNatClampNeg) &&& 255).toInt32)) then mX5_forget_L2 n (l1 + 1) iv ar la pA pB else if (((((((la 501 l1.toNatClampNeg) >>> (Int32.toInt64 8 &&& 63)) &&& 255).toInt32) * 200) + (((la 501 l1.toNatClampNeg) &&& 255).toInt32)) >>> (6 &&& 31)) < 0 ∨ 625 ≤ (((((((la 501 l1.toNatClampNeg) >>> (Int32.toInt64 8 &&& 63)) &&& 255).toInt32) * 200) + (((la 501 l1.toNatClampNeg) &&& 255).toInt32)) >>> (6 &&& 31)).toNatClampNeg then none else mX5_forget_L2 n (l1 + 1) iv ar (lu la 502 (((((((la 501 l1.toNatClampNeg) >>> (Int32.toInt64 8 &&& 63)) &&& 255).toInt32) * 200) + (((la 501 l1.toNatClampNeg) &&& 255).toInt32)) >>> (6 &&& 31)).toNatClampNeg 0) pA pB
set_option maxRecDepth 100000 in
set_option maxHeartbeats 4000000 in
theorem wX5_forget_L2 (C : mCx p s m args meth c RX5 cX5_forget 3 none D cI cJ A) (n : Nat) : ∀ (l1 : Int32) (iv : mI) (ar : mA) (la : mL) (pA : mA) (pB : mA) (rz : Int32) (ivz : mI) (arz : mA) (laz : mL) (pAz : mA) (pBz : mA), mX5_forget_L2 n l1 iv ar la pA pB = some (rz, ivz, arz, laz, pAz, pBz) → ∀ (H : Heap) (locs : List Loc) (ls : Array Slot), lv_has ls 3 [(0, .ref (oc 5)), (1, .int l1)] → inW D A s (wC cI cJ oc ac pa pb aa ab xp xs tp cp mp iv ar la pA pB) H locs → W p l e (rmO 0 0) s m args below meth c H locs 0 0 (MQ below (ctQv D cI cJ (wC cI cJ oc ac pa pb aa ab xp xs tp cp mp ivz arz laz pAz pBz) A) args s 0 0 A) (F0 m 2 ls []) := by
  induction n with
  | zero =>
    intro l1 iv ar la pA pB rz ivz arz laz pAz pBz hm H locs ls hl hw
    have hm : (none : Option (Int32 × mI × mA × mL × mA × mA)) = some _ := hm
    cases hm
  | succ n ih =>
    intro l1 iv ar la pA pB rz ivz arz laz pAz pBz hm H locs ls hl hw
    have hx := C.1.1
    have hb := C.1.2.1
    have hown := C.1.2.2.2.1
    unfold mX5_forget_L2 at hm
    refine lv_iload_n hx hb dX5_forget_2 rfl (lv_at hl 1 rfl) ?_
    refine lv_aload_n hx hb dX5_forget_3 rfl (lv_at hl 0 rfl) ?_
    refine g_get C hw gC5_3 dX5_forget_4 ?_
    refine lv_icmp_ge (tgt := 69) hx hb dX5_forget_7 (by decide) (fun hc => ?_) (fun hc => ?_)
    · have hm := it_t hc hm
      refine lv_aload_n hx hb dX5_forget_69 rfl (lv_at hl 0 rfl) ?_
      refine lv_iconst (v := 0) hx hb dX5_forget_70 ci_0 ?_
      refine g_put C hw pC5_3 dX5_forget_71 (fun H locs hw => ?_)
      cases hm
      exact g_vret C hw dX5_forget_74
    · have hm := it_f hc hm
      refine lv_iload_n hx hb dX5_forget_10 rfl (lv_at hl 1 rfl) ?_
      refine lv_ldc hx hb hown (C.1.2.2.2.2 _ cstX5_11) dX5_forget_11 ?_
      refine lv_icmp_ge (tgt := 69) hx hb dX5_forget_13 (by decide) (fun hc => ?_) (fun hc => ?_)
      · have hm := it_t hc hm
        refine lv_aload_n hx hb dX5_forget_69 rfl (lv_at hl 0 rfl) ?_
        refine lv_iconst (v := 0) hx hb dX5_forget_70 ci_0 ?_
        refine g_put C hw pC5_3 dX5_forget_71 (fun H locs hw => ?_)
        cases hm
        exact g_vret C hw dX5_forget_74
      · have hm := it_f hc hm
        refine lv_aload_n hx hb dX5_forget_16 rfl (lv_at hl 0 rfl) ?_
        refine g_get C hw gC5_1 dX5_forget_17 ?_
        refine lv_iload_n hx hb dX5_forget_20 rfl (lv_at hl 1 rfl) ?_
        obtain ⟨hi, hm⟩ := it_a hm
        refine g_lald C hw aC5_1 hi dX5_forget_21 ?_
        refine lv_bipush (v := 8) hx hb dX5_forget_22 cb_8 ?_
        refine lv_lshr hx hb dX5_forget_24 rfl ?_
        refine lv_ldc2 hx hb hown (C.1.2.2.2.2 _ cstX5_47) dX5_forget_25 ?_
        refine lv_land hx hb dX5_forget_28 ?_
        refine lv_l2i hx hb dX5_forget_29 rfl ?_
        refine lv_sipush (v := 200) hx hb dX5_forget_30 cs_200 ?_
        refine lv_imul hx hb dX5_forget_33 ?_
        refine lv_aload_n hx hb dX5_forget_34 rfl (lv_at hl 0 rfl) ?_
        refine g_get C hw gC5_1 dX5_forget_35 ?_
        refine lv_iload_n hx hb dX5_forget_38 rfl (lv_at hl 1 rfl) ?_
        obtain ⟨hi, hm⟩ := it_a hm
        refine g_lald C hw aC5_1 hi dX5_forget_39 ?_
        refine lv_ldc2 hx hb hown (C.1.2.2.2.2 _ cstX5_47) dX5_forget_40 ?_
        refine lv_land hx hb dX5_forget_43 ?_
        refine lv_l2i hx hb dX5_forget_44 rfl ?_
        refine lv_iadd hx hb dX5_forget_45 ?_
        refine lv_istore_n (lv' := [(2, .int ((((((la 501 l1.toNatClampNeg) >>> (Int32.toInt64 8 &&& 63)) &&& 255).toInt32) * 200) + (((la 501 l1.toNatClampNeg) &&& 255).toInt32))), (0, .ref (oc 5)), (1, .int l1)]) hx hb dX5_forget_46 rfl hl (by decide) rfl (fun ls hl => ?_)
        refine lv_iload_n hx hb dX5_forget_47 rfl (lv_at hl 0 rfl) ?_
        refine lv_ldc hx hb hown (C.1.2.2.2.2 _ cstX5_11) dX5_forget_48 ?_
        refine lv_icmp_ge (tgt := 63) hx hb dX5_forget_50 (by decide) (fun hc => ?_) (fun hc => ?_)
        · have hm := it_t hc hm
          refine lv_iinc (v := (l1 + 1)) (lv' := [(1, .int (l1 + 1)), (2, .int ((((((la 501 l1.toNatClampNeg) >>> (Int32.toInt64 8 &&& 63)) &&& 255).toInt32) * 200) + (((la 501 l1.toNatClampNeg) &&& 255).toInt32))), (0, .ref (oc 5))]) hx hb dX5_forget_63 hl (k := 2) rfl (ii_ ci_1) (by decide) rfl (fun ls hl => ?_)
          refine lv_goto (tgt := 2) hx hb dX5_forget_66 (by decide) ?_
          exact ih _ _ _ _ _ _ _ _ _ _ _ _ hm _ _ _ (lv_sub hl [2, 0] rfl) hw
        · have hm := it_f hc hm
          refine lv_aload_n hx hb dX5_forget_53 rfl (lv_at hl 1 rfl) ?_
          refine g_get C hw gC5_2 dX5_forget_54 ?_
          refine lv_iload_n hx hb dX5_forget_57 rfl (lv_at hl 0 rfl) ?_
          refine lv_bipush (v := 6) hx hb dX5_forget_58 cb_6 ?_
          refine lv_ishr hx hb dX5_forget_60 ?_
          refine lv_lconst (v := 0) hx hb dX5_forget_61 (by decide) ?_
          obtain ⟨hi, hm⟩ := it_a hm
          refine g_last C hw sC5_2 hi dX5_forget_62 (fun H locs hw => ?_)
          refine lv_iinc (v := (l1 + 1)) (lv' := [(1, .int (l1 + 1)), (2, .int ((((((la 501 l1.toNatClampNeg) >>> (Int32.toInt64 8 &&& 63)) &&& 255).toInt32) * 200) + (((la 501 l1.toNatClampNeg) &&& 255).toInt32))), (0, .ref (oc 5))]) hx hb dX5_forget_63 hl (k := 2) rfl (ii_ ci_1) (by decide) rfl (fun ls hl => ?_)
          refine lv_goto (tgt := 2) hx hb dX5_forget_66 (by decide) ?_
          exact ih _ _ _ _ _ _ _ _ _ _ _ _ hm _ _ _ (lv_sub hl [2, 0] rfl) hw
def mX5_forget  (iv : mI) (ar : mA) (la : mL) (pA : mA) (pB : mA) : Option (Int32 × mI × mA × mL × mA × mA) := mX5_forget_L2 bigF 0 iv ar la pA pB
set_option maxRecDepth 100000 in
set_option maxHeartbeats 4000000 in
theorem kX5_forget {iv ivz : mI} {ar arz : mA} {la laz : mL} {pA pAz : mA} {pB pBz : mA} {rz : Int32} (hm : mX5_forget iv ar la pA pB = some (rz, ivz, arz, laz, pAz, pBz)) : CtV l D cI cJ yX5_forget cX5_forget 3 0 0 [.ref (oc 5)] (wC cI cJ oc ac pa pb aa ab xp xs tp cp mp iv ar la pA pB) (wC cI cJ oc ac pa pb aa ab xp xs tp cp mp ivz arz laz pAz pBz) := by
  intro sz
  refine ct_of (by decide) (Nat.le_of_ble_eq_true rfl) ?_
  intro p e s m args below meth c C hw ls hl
  have hl : lv_has ls 3 [(0, .ref (oc 5))] := hl
  have hx := C.1.1
  have hb := C.1.2.1
  unfold mX5_forget at hm
  refine lv_iconst (v := 0) hx hb dX5_forget_0 ci_0 ?_
  refine lv_istore_n (lv' := [(1, .int 0), (0, .ref (oc 5))]) hx hb dX5_forget_1 rfl hl (by decide) rfl (fun ls hl => ?_)
  exact wX5_forget_L2 C bigF _ _ _ _ _ _ _ _ _ _ _ _ hm _ _ _ (lv_sub hl [1, 0] rfl) hw
def mX5_enter (a1 : Int32) (a2 : Int32) (a3 : Int32) (a4 : Int32) (iv : mI) (ar : mA) (la : mL) (pA : mA) (pB : mA) : Option (Int32 × mI × mA × mL × mA × mA) := if a1 < 0 then some (0, iv, ar, la, pA, pB) else if 200 ≤ a1 then some (0, iv, ar, la, pA, pB) else if a2 < 0 then some (0, iv, ar, la, pA, pB) else if 200 ≤ a2 then some (0, iv, ar, la, pA, pB) else if (iv 503) < 40000 then if (((a1 * 200) + a2) >>> (6 &&& 31)) < 0 ∨ 625 ≤ (((a1 * 200) + a2) >>> (6 &&& 31)).toNatClampNeg then none else if (lg_cmp ((la 502 (((a1 * 200) + a2) >>> (6 &&& 31)).toNatClampNeg) &&& (1 <<< (Int32.toInt64 (((a1 * 200) + a2) &&& 63) &&& 63))) 0) = 0 then if (((a1 * 200) + a2) >>> (6 &&& 31)) < 0 ∨ 625 ≤ (((a1 * 200) + a2) >>> (6 &&& 31)).toNatClampNeg then none else if (((a1 * 200) + a2) >>> (6 &&& 31)) < 0 ∨ 625 ≤ (((a1 * 200) + a2) >>> (6 &&& 31)).toNatClampNeg then none else if (iv 503) < 0 ∨ 40000 ≤ (iv 503).toNatClampNeg then none else some (0, va_up iv 503 ((iv 503) + 1), ar, lu (lu la 502 (((a1 * 200) + a2) >>> (6 &&& 31)).toNatClampNeg ((la 502 (((a1 * 200) + a2) >>> (6 &&& 31)).toNatClampNeg) ||| (1 <<< (Int32.toInt64 (((a1 * 200) + a2) &&& 63) &&& 63)))) 501 (iv 503).toNatClampNeg ((((a4.toInt64 <<< (Int32.toInt64 19 &&& 63)) ||| (a3.toInt64 <<< (Int32.toInt64 16 &&& 63))) ||| (a1.toInt64 <<< (Int32.toInt64 8 &&& 63))) ||| a2.toInt64), pA, pB) else some (0, iv, ar, la, pA, pB) else some (0, iv, ar, la, pA, pB)
set_option maxRecDepth 100000 in
set_option maxHeartbeats 4000000 in
theorem kX5_enter {a1 a2 a3 a4 : Int32} {iv ivz : mI} {ar arz : mA} {la laz : mL} {pA pAz : mA} {pB pBz : mA} {rz : Int32} (hm : mX5_enter a1 a2 a3 a4 iv ar la pA pB = some (rz, ivz, arz, laz, pAz, pBz)) : CtV l D cI cJ yX5_enter cX5_enter 8 0 0 [.ref (oc 5), .int a1, .int a2, .int a3, .int a4] (wC cI cJ oc ac pa pb aa ab xp xs tp cp mp iv ar la pA pB) (wC cI cJ oc ac pa pb aa ab xp xs tp cp mp ivz arz laz pAz pBz) := by
  intro sz
  refine ct_of (by decide) (Nat.le_of_ble_eq_true rfl) ?_
  intro p e s m args below meth c C hw ls hl
  have hl : lv_has ls 8 [(0, .ref (oc 5)), (1, .int a1), (2, .int a2), (3, .int a3), (4, .int a4)] := hl
  have hx := C.1.1
  have hb := C.1.2.1
  have hown := C.1.2.2.2.1
  unfold mX5_enter at hm
  refine lv_iload_n hx hb dX5_enter_0 rfl (lv_at hl 1 rfl) ?_
  refine lv_if_lt (tgt := 31) hx hb dX5_enter_1 (by decide) (fun hc => ?_) (fun hc => ?_)
  · have hm := it_t hc hm
    cases hm
    exact g_vret C hw dX5_enter_31
  · have hm := it_f hc hm
    refine lv_iload_n hx hb dX5_enter_4 rfl (lv_at hl 1 rfl) ?_
    refine lv_sipush (v := 200) hx hb dX5_enter_5 cs_200 ?_
    refine lv_icmp_ge (tgt := 31) hx hb dX5_enter_8 (by decide) (fun hc => ?_) (fun hc => ?_)
    · have hm := it_t hc hm
      cases hm
      exact g_vret C hw dX5_enter_31
    · have hm := it_f hc hm
      refine lv_iload_n hx hb dX5_enter_11 rfl (lv_at hl 2 rfl) ?_
      refine lv_if_lt (tgt := 31) hx hb dX5_enter_12 (by decide) (fun hc => ?_) (fun hc => ?_)
      · have hm := it_t hc hm
        cases hm
        exact g_vret C hw dX5_enter_31
      · have hm := it_f hc hm
        refine lv_iload_n hx hb dX5_enter_15 rfl (lv_at hl 2 rfl) ?_
        refine lv_sipush (v := 200) hx hb dX5_enter_16 cs_200 ?_
        refine lv_icmp_ge (tgt := 31) hx hb dX5_enter_19 (by decide) (fun hc => ?_) (fun hc => ?_)
        · have hm := it_t hc hm
          cases hm
          exact g_vret C hw dX5_enter_31
        · have hm := it_f hc hm
          refine lv_aload_n hx hb dX5_enter_22 rfl (lv_at hl 0 rfl) ?_
          refine g_get C hw gC5_3 dX5_enter_23 ?_
          refine lv_ldc hx hb hown (C.1.2.2.2.2 _ cstX5_11) dX5_enter_26 ?_
          refine lv_icmp_lt (tgt := 32) hx hb dX5_enter_28 (by decide) (fun hc => ?_) (fun hc => ?_)
          · have hm := it_t hc hm
            refine lv_iload_n hx hb dX5_enter_32 rfl (lv_at hl 1 rfl) ?_
            refine lv_sipush (v := 200) hx hb dX5_enter_33 cs_200 ?_
            refine lv_imul hx hb dX5_enter_36 ?_
            refine lv_iload_n hx hb dX5_enter_37 rfl (lv_at hl 2 rfl) ?_
            refine lv_iadd hx hb dX5_enter_38 ?_
            refine lv_istore (lv' := [(5, .int ((a1 * 200) + a2)), (0, .ref (oc 5)), (1, .int a1), (2, .int a2), (3, .int a3), (4, .int a4)]) hx hb dX5_enter_39 hl (by decide) rfl (fun ls hl => ?_)
            refine lv_lconst (v := 1) hx hb dX5_enter_41 (by decide) ?_
            refine lv_iload hx hb dX5_enter_42 (lv_at hl 0 rfl) ?_
            refine lv_bipush (v := 63) hx hb dX5_enter_44 cb_63 ?_
            refine lv_iand hx hb dX5_enter_46 ?_
            refine lv_lshl hx hb dX5_enter_47 rfl ?_
            refine lv_lstore (lv' := [(6, .long (1 <<< (Int32.toInt64 (((a1 * 200) + a2) &&& 63) &&& 63))), (5, .int ((a1 * 200) + a2)), (0, .ref (oc 5)), (1, .int a1), (2, .int a2), (3, .int a3), (4, .int a4)]) hx hb dX5_enter_48 hl (by decide) rfl (fun ls hl => ?_)
            refine lv_aload_n hx hb dX5_enter_50 rfl (lv_at hl 2 rfl) ?_
            refine g_get C hw gC5_2 dX5_enter_51 ?_
            refine lv_iload hx hb dX5_enter_54 (lv_at hl 1 rfl) ?_
            refine lv_bipush (v := 6) hx hb dX5_enter_56 cb_6 ?_
            refine lv_ishr hx hb dX5_enter_58 ?_
            obtain ⟨hi, hm⟩ := it_a hm
            refine g_lald C hw aC5_2 hi dX5_enter_59 ?_
            refine lv_lload hx hb dX5_enter_60 (lv_at hl 0 rfl) ?_
            refine lv_land hx hb dX5_enter_62 ?_
            refine lv_lconst (v := 0) hx hb dX5_enter_63 (by decide) ?_
            refine W.lcmp hx hb dX5_enter_64 ?_
            refine lv_if_ne (tgt := 123) hx hb dX5_enter_65 (by decide) (fun hc => ?_) (fun hc => ?_)
            · have hm := it_f hc hm
              cases hm
              exact g_vret C hw dX5_enter_123
            · have hm := it_t hc hm
              refine lv_aload_n hx hb dX5_enter_68 rfl (lv_at hl 2 rfl) ?_
              refine g_get C hw gC5_2 dX5_enter_69 ?_
              refine lv_iload hx hb dX5_enter_72 (lv_at hl 1 rfl) ?_
              refine lv_bipush (v := 6) hx hb dX5_enter_74 cb_6 ?_
              refine lv_ishr hx hb dX5_enter_76 ?_
              refine lv_dup2_11 hx hb dX5_enter_77 rfl rfl ?_
              obtain ⟨hi, hm⟩ := it_a hm
              refine g_lald C hw aC5_2 hi dX5_enter_78 ?_
              refine lv_lload hx hb dX5_enter_79 (lv_at hl 0 rfl) ?_
              refine lv_lor hx hb dX5_enter_81 ?_
              obtain ⟨hi, hm⟩ := it_a hm
              refine g_last C hw sC5_2 hi dX5_enter_82 (fun H locs hw => ?_)
              refine lv_aload_n hx hb dX5_enter_83 rfl (lv_at hl 2 rfl) ?_
              refine g_get C hw gC5_1 dX5_enter_84 ?_
              refine lv_aload_n hx hb dX5_enter_87 rfl (lv_at hl 2 rfl) ?_
              refine g_get C hw gC5_3 dX5_enter_88 ?_
              refine lv_iload hx hb dX5_enter_91 (lv_at hl 6 rfl) ?_
              refine lv_i2l hx hb dX5_enter_93 rfl ?_
              refine lv_bipush (v := 19) hx hb dX5_enter_94 cb_19 ?_
              refine lv_lshl hx hb dX5_enter_96 rfl ?_
              refine lv_iload_n hx hb dX5_enter_97 rfl (lv_at hl 5 rfl) ?_
              refine lv_i2l hx hb dX5_enter_98 rfl ?_
              refine lv_bipush (v := 16) hx hb dX5_enter_99 cb_16 ?_
              refine lv_lshl hx hb dX5_enter_101 rfl ?_
              refine lv_lor hx hb dX5_enter_102 ?_
              refine lv_iload_n hx hb dX5_enter_103 rfl (lv_at hl 3 rfl) ?_
              refine lv_i2l hx hb dX5_enter_104 rfl ?_
              refine lv_bipush (v := 8) hx hb dX5_enter_105 cb_8 ?_
              refine lv_lshl hx hb dX5_enter_107 rfl ?_
              refine lv_lor hx hb dX5_enter_108 ?_
              refine lv_iload_n hx hb dX5_enter_109 rfl (lv_at hl 4 rfl) ?_
              refine lv_i2l hx hb dX5_enter_110 rfl ?_
              refine lv_lor hx hb dX5_enter_111 ?_
              obtain ⟨hi, hm⟩ := it_a hm
              refine g_last C hw sC5_1 hi dX5_enter_112 (fun H locs hw => ?_)
              refine lv_aload_n hx hb dX5_enter_113 rfl (lv_at hl 2 rfl) ?_
              refine lv_dup hx hb dX5_enter_114 rfl ?_
              refine g_get C hw gC5_3 dX5_enter_115 ?_
              refine lv_iconst (v := 1) hx hb dX5_enter_118 ci_1 ?_
              refine lv_iadd hx hb dX5_enter_119 ?_
              refine g_put C hw pC5_3 dX5_enter_120 (fun H locs hw => ?_)
              cases hm
              exact g_vret C hw dX5_enter_123
          · have hm := it_f hc hm
            cases hm
            exact g_vret C hw dX5_enter_31
def mX3_labelsOf (a1 : Int32) (iv : mI) (ar : mA) (la : mL) (pA : mA) (pB : mA) : Option (Int32 × mI × mA × mL × mA × mA) := if a1 < 0 then some (0, iv, ar, la, pA, pB) else if (iv 303) ≤ a1 then some (0, iv, ar, la, pA, pB) else if a1 < 0 ∨ 400 ≤ a1.toNatClampNeg then none else some ((ar 301 a1.toNatClampNeg), iv, ar, la, pA, pB)
set_option maxRecDepth 100000 in
set_option maxHeartbeats 4000000 in
theorem kX3_labelsOf {a1 : Int32} {iv ivz : mI} {ar arz : mA} {la laz : mL} {pA pAz : mA} {pB pBz : mA} {rz : Int32} (hm : mX3_labelsOf a1 iv ar la pA pB = some (rz, ivz, arz, laz, pAz, pBz)) : Ct l D cI cJ yX3_labelsOf cX3_labelsOf 2 (some .int) 0 0 [.ref (oc 3), .int a1] (wC cI cJ oc ac pa pb aa ab xp xs tp cp mp iv ar la pA pB) (wC cI cJ oc ac pa pb aa ab xp xs tp cp mp ivz arz laz pAz pBz) rz := by
  intro sz
  refine ct_of (by decide) (Nat.le_of_ble_eq_true rfl) ?_
  intro p e s m args below meth c C hw ls hl
  have hl : lv_has ls 2 [(0, .ref (oc 3)), (1, .int a1)] := hl
  have hx := C.1.1
  have hb := C.1.2.1
  unfold mX3_labelsOf at hm
  refine lv_iload_n hx hb dX3_labelsOf_0 rfl (lv_at hl 1 rfl) ?_
  refine lv_if_lt (tgt := 21) hx hb dX3_labelsOf_1 (by decide) (fun hc => ?_) (fun hc => ?_)
  · have hm := it_t hc hm
    refine lv_iconst (v := 0) hx hb dX3_labelsOf_21 ci_0 ?_
    cases hm
    exact g_iret C hw dX3_labelsOf_22
  · have hm := it_f hc hm
    refine lv_iload_n hx hb dX3_labelsOf_4 rfl (lv_at hl 1 rfl) ?_
    refine lv_aload_n hx hb dX3_labelsOf_5 rfl (lv_at hl 0 rfl) ?_
    refine g_get C hw gC3_3 dX3_labelsOf_6 ?_
    refine lv_icmp_ge (tgt := 21) hx hb dX3_labelsOf_9 (by decide) (fun hc => ?_) (fun hc => ?_)
    · have hm := it_t hc hm
      refine lv_iconst (v := 0) hx hb dX3_labelsOf_21 ci_0 ?_
      cases hm
      exact g_iret C hw dX3_labelsOf_22
    · have hm := it_f hc hm
      refine lv_aload_n hx hb dX3_labelsOf_12 rfl (lv_at hl 0 rfl) ?_
      refine g_get C hw gC3_1 dX3_labelsOf_13 ?_
      refine lv_iload_n hx hb dX3_labelsOf_16 rfl (lv_at hl 1 rfl) ?_
      obtain ⟨hi, hm⟩ := it_a hm
      refine g_ald C hw aC3_1 hi dX3_labelsOf_17 ?_
      refine lv_goto (tgt := 22) hx hb dX3_labelsOf_18 (by decide) ?_
      cases hm
      exact g_iret C hw dX3_labelsOf_22
def mX5_fitAtSight (a1 : Int32) (a2 : Int32) (iv : mI) (ar : mA) (la : mL) (pA : mA) (pB : mA) : Option (Int32 × mI × mA × mL × mA × mA) := obc (mX3_kindOf a1 iv ar la pA pB) (fun r5 iv5 ar5 la5 pA5 pB5 => if r5 = 1 then some (1, iv5, ar5, la5, pA5, pB5) else obc (mX3_kindOf a2 iv5 ar5 la5 pA5 pB5) (fun r19 iv19 ar19 la19 pA19 pB19 => if r19 = 0 then some (1, iv19, ar19, la19, pA19, pB19) else obc (mX3_kindOf a2 iv19 ar19 la19 pA19 pB19) (fun r33 iv33 ar33 la33 pA33 pB33 => if r5 = r33 then if r5 = 5 then obc (mX3_labelsOf a2 iv33 ar33 la33 pA33 pB33) (fun r51 iv51 ar51 la51 pA51 pB51 => obc (mX3_labelsOf a1 iv51 ar51 la51 pA51 pB51) (fun r59 iv59 ar59 la59 pA59 pB59 => if (r51 &&& (r59 ^^^ (-1))) = 0 then some (1, iv59, ar59, la59, pA59, pB59) else some (0, iv59, ar59, la59, pA59, pB59))) else if r5 = 6 then obc (mX3_labelsOf a1 iv33 ar33 la33 pA33 pB33) (fun r85 iv85 ar85 la85 pA85 pB85 => obc (mX3_labelsOf a2 iv85 ar85 la85 pA85 pB85) (fun r93 iv93 ar93 la93 pA93 pB93 => if (r85 &&& (r93 ^^^ (-1))) = 0 then some (1, iv93, ar93, la93, pA93, pB93) else some (0, iv93, ar93, la93, pA93, pB93))) else some (1, iv33, ar33, la33, pA33, pB33) else some (0, iv33, ar33, la33, pA33, pB33))))
set_option maxRecDepth 100000 in
set_option maxHeartbeats 4000000 in
theorem kX5_fitAtSight {a1 a2 : Int32} {iv ivz : mI} {ar arz : mA} {la laz : mL} {pA pAz : mA} {pB pBz : mA} {rz : Int32} (hm : mX5_fitAtSight a1 a2 iv ar la pA pB = some (rz, ivz, arz, laz, pAz, pBz)) : Ct l D cI cJ yX5_fitAtSight cX5_fitAtSight 4 (some .boolean) 1 21 [.ref (oc 5), .int a1, .int a2] (wC cI cJ oc ac pa pb aa ab xp xs tp cp mp iv ar la pA pB) (wC cI cJ oc ac pa pb aa ab xp xs tp cp mp ivz arz laz pAz pBz) rz := by
  intro sz
  refine ct_of (by decide) (Nat.le_of_ble_eq_true rfl) ?_
  intro p e s m args below meth c C hw ls hl
  have hl : lv_has ls 4 [(0, .ref (oc 5)), (1, .int a1), (2, .int a2)] := hl
  have hx := C.1.1
  have hb := C.1.2.1
  unfold mX5_fitAtSight at hm
  refine lv_aload_n hx hb dX5_fitAtSight_0 rfl (lv_at hl 0 rfl) ?_
  refine g_get C hw gC5_0 dX5_fitAtSight_1 ?_
  refine lv_iload_n hx hb dX5_fitAtSight_4 rfl (lv_at hl 1 rfl) ?_
  obtain ⟨r5, iv5, ar5, la5, pA5, pB5, hc5, hm⟩ := obc_some hm
  refine g_calli (As := [.int a1]) (rest := []) C hw (kX3_kindOf hc5) mtX3_kindOf lkX5_57 oC3 hl.1 rfl rfl (Nat.le_of_ble_eq_true rfl) ⟨Nat.le_of_ble_eq_true rfl, Nat.le_of_ble_eq_true rfl⟩ dX5_fitAtSight_5 ⟨Nat.zero_le _, Nat.zero_le _⟩ (fun H locs hw => ?_)
  refine lv_istore_n (lv' := [(3, .int r5), (0, .ref (oc 5)), (1, .int a1), (2, .int a2)]) hx hb dX5_fitAtSight_8 rfl hl (by decide) rfl (fun ls hl => ?_)
  refine lv_iload_n hx hb dX5_fitAtSight_9 rfl (lv_at hl 0 rfl) ?_
  refine lv_iconst (v := 1) hx hb dX5_fitAtSight_10 ci_1 ?_
  refine lv_icmp_eq (tgt := 25) hx hb dX5_fitAtSight_11 (by decide) (fun hc => ?_) (fun hc => ?_)
  · have hm := it_t hc hm
    refine lv_iconst (v := 1) hx hb dX5_fitAtSight_25 ci_1 ?_
    cases hm
    exact g_zret C hw (Or.inr rfl) dX5_fitAtSight_26
  · have hm := it_f hc hm
    refine lv_aload_n hx hb dX5_fitAtSight_14 rfl (lv_at hl 1 rfl) ?_
    refine g_get C hw gC5_0 dX5_fitAtSight_15 ?_
    refine lv_iload_n hx hb dX5_fitAtSight_18 rfl (lv_at hl 3 rfl) ?_
    obtain ⟨r19, iv19, ar19, la19, pA19, pB19, hc19, hm⟩ := obc_some hm
    refine g_calli (As := [.int a2]) (rest := []) C hw (kX3_kindOf hc19) mtX3_kindOf lkX5_57 oC3 hl.1 rfl rfl (Nat.le_of_ble_eq_true rfl) ⟨Nat.le_of_ble_eq_true rfl, Nat.le_of_ble_eq_true rfl⟩ dX5_fitAtSight_19 ⟨Nat.zero_le _, Nat.zero_le _⟩ (fun H locs hw => ?_)
    refine lv_if_ne (tgt := 27) hx hb dX5_fitAtSight_22 (by decide) (fun hc => ?_) (fun hc => ?_)
    · have hm := it_f hc hm
      refine lv_iload_n hx hb dX5_fitAtSight_27 rfl (lv_at hl 0 rfl) ?_
      refine lv_aload_n hx hb dX5_fitAtSight_28 rfl (lv_at hl 1 rfl) ?_
      refine g_get C hw gC5_0 dX5_fitAtSight_29 ?_
      refine lv_iload_n hx hb dX5_fitAtSight_32 rfl (lv_at hl 3 rfl) ?_
      obtain ⟨r33, iv33, ar33, la33, pA33, pB33, hc33, hm⟩ := obc_some hm
      refine g_calli (As := [.int a2]) (rest := [.int r5]) C hw (kX3_kindOf hc33) mtX3_kindOf lkX5_57 oC3 hl.1 rfl rfl (Nat.le_of_ble_eq_true rfl) ⟨Nat.le_of_ble_eq_true rfl, Nat.le_of_ble_eq_true rfl⟩ dX5_fitAtSight_33 ⟨Nat.zero_le _, Nat.zero_le _⟩ (fun H locs hw => ?_)
      refine lv_icmp_eq (tgt := 41) hx hb dX5_fitAtSight_36 (by decide) (fun hc => ?_) (fun hc => ?_)
      · have hm := it_t hc hm
        refine lv_iload_n hx hb dX5_fitAtSight_41 rfl (lv_at hl 0 rfl) ?_
        refine lv_iconst (v := 5) hx hb dX5_fitAtSight_42 ci_5 ?_
        refine lv_icmp_ne (tgt := 74) hx hb dX5_fitAtSight_43 (by decide) (fun hc => ?_) (fun hc => ?_)
        · have hm := it_f hc hm
          refine lv_iload_n hx hb dX5_fitAtSight_74 rfl (lv_at hl 0 rfl) ?_
          refine lv_bipush (v := 6) hx hb dX5_fitAtSight_75 cb_6 ?_
          refine lv_icmp_ne (tgt := 102) hx hb dX5_fitAtSight_77 (by decide) (fun hc => ?_) (fun hc => ?_)
          · have hm := it_f hc hm
            refine lv_iconst (v := 1) hx hb dX5_fitAtSight_102 ci_1 ?_
            refine lv_goto (tgt := 107) hx hb dX5_fitAtSight_103 (by decide) ?_
            cases hm
            exact g_zret C hw (Or.inr rfl) dX5_fitAtSight_107
          · have hm := it_t hc hm
            refine lv_aload_n hx hb dX5_fitAtSight_80 rfl (lv_at hl 1 rfl) ?_
            refine g_get C hw gC5_0 dX5_fitAtSight_81 ?_
            refine lv_iload_n hx hb dX5_fitAtSight_84 rfl (lv_at hl 2 rfl) ?_
            obtain ⟨r85, iv85, ar85, la85, pA85, pB85, hc85, hm⟩ := obc_some hm
            refine g_calli (As := [.int a1]) (rest := []) C hw (kX3_labelsOf hc85) mtX3_labelsOf lkX5_62 oC3 hl.1 rfl rfl (Nat.le_of_ble_eq_true rfl) ⟨Nat.le_of_ble_eq_true rfl, Nat.le_of_ble_eq_true rfl⟩ dX5_fitAtSight_85 ⟨Nat.zero_le _, Nat.zero_le _⟩ (fun H locs hw => ?_)
            refine lv_aload_n hx hb dX5_fitAtSight_88 rfl (lv_at hl 1 rfl) ?_
            refine g_get C hw gC5_0 dX5_fitAtSight_89 ?_
            refine lv_iload_n hx hb dX5_fitAtSight_92 rfl (lv_at hl 3 rfl) ?_
            obtain ⟨r93, iv93, ar93, la93, pA93, pB93, hc93, hm⟩ := obc_some hm
            refine g_calli (As := [.int a2]) (rest := [.int r85]) C hw (kX3_labelsOf hc93) mtX3_labelsOf lkX5_62 oC3 hl.1 rfl rfl (Nat.le_of_ble_eq_true rfl) ⟨Nat.le_of_ble_eq_true rfl, Nat.le_of_ble_eq_true rfl⟩ dX5_fitAtSight_93 ⟨Nat.zero_le _, Nat.zero_le _⟩ (fun H locs hw => ?_)
            refine lv_iconst (v := (-1)) hx hb dX5_fitAtSight_96 ci_m1 ?_
            refine lv_ixor hx hb dX5_fitAtSight_97 ?_
            refine lv_iand hx hb dX5_fitAtSight_98 ?_
            refine lv_if_ne (tgt := 106) hx hb dX5_fitAtSight_99 (by decide) (fun hc => ?_) (fun hc => ?_)
            · have hm := it_f hc hm
              refine lv_iconst (v := 0) hx hb dX5_fitAtSight_106 ci_0 ?_
              cases hm
              exact g_zret C hw (Or.inl rfl) dX5_fitAtSight_107
            · have hm := it_t hc hm
              refine lv_iconst (v := 1) hx hb dX5_fitAtSight_102 ci_1 ?_
              refine lv_goto (tgt := 107) hx hb dX5_fitAtSight_103 (by decide) ?_
              cases hm
              exact g_zret C hw (Or.inr rfl) dX5_fitAtSight_107
        · have hm := it_t hc hm
          refine lv_aload_n hx hb dX5_fitAtSight_46 rfl (lv_at hl 1 rfl) ?_
          refine g_get C hw gC5_0 dX5_fitAtSight_47 ?_
          refine lv_iload_n hx hb dX5_fitAtSight_50 rfl (lv_at hl 3 rfl) ?_
          obtain ⟨r51, iv51, ar51, la51, pA51, pB51, hc51, hm⟩ := obc_some hm
          refine g_calli (As := [.int a2]) (rest := []) C hw (kX3_labelsOf hc51) mtX3_labelsOf lkX5_62 oC3 hl.1 rfl rfl (Nat.le_of_ble_eq_true rfl) ⟨Nat.le_of_ble_eq_true rfl, Nat.le_of_ble_eq_true rfl⟩ dX5_fitAtSight_51 ⟨Nat.zero_le _, Nat.zero_le _⟩ (fun H locs hw => ?_)
          refine lv_aload_n hx hb dX5_fitAtSight_54 rfl (lv_at hl 1 rfl) ?_
          refine g_get C hw gC5_0 dX5_fitAtSight_55 ?_
          refine lv_iload_n hx hb dX5_fitAtSight_58 rfl (lv_at hl 2 rfl) ?_
          obtain ⟨r59, iv59, ar59, la59, pA59, pB59, hc59, hm⟩ := obc_some hm
          refine g_calli (As := [.int a1]) (rest := [.int r51]) C hw (kX3_labelsOf hc59) mtX3_labelsOf lkX5_62 oC3 hl.1 rfl rfl (Nat.le_of_ble_eq_true rfl) ⟨Nat.le_of_ble_eq_true rfl, Nat.le_of_ble_eq_true rfl⟩ dX5_fitAtSight_59 ⟨Nat.zero_le _, Nat.zero_le _⟩ (fun H locs hw => ?_)
          refine lv_iconst (v := (-1)) hx hb dX5_fitAtSight_62 ci_m1 ?_
          refine lv_ixor hx hb dX5_fitAtSight_63 ?_
          refine lv_iand hx hb dX5_fitAtSight_64 ?_
          refine lv_if_ne (tgt := 72) hx hb dX5_fitAtSight_65 (by decide) (fun hc => ?_) (fun hc => ?_)
          · have hm := it_f hc hm
            refine lv_iconst (v := 0) hx hb dX5_fitAtSight_72 ci_0 ?_
            cases hm
            exact g_zret C hw (Or.inl rfl) dX5_fitAtSight_73
          · have hm := it_t hc hm
            refine lv_iconst (v := 1) hx hb dX5_fitAtSight_68 ci_1 ?_
            refine lv_goto (tgt := 73) hx hb dX5_fitAtSight_69 (by decide) ?_
            cases hm
            exact g_zret C hw (Or.inr rfl) dX5_fitAtSight_73
      · have hm := it_f hc hm
        refine lv_iconst (v := 0) hx hb dX5_fitAtSight_39 ci_0 ?_
        cases hm
        exact g_zret C hw (Or.inl rfl) dX5_fitAtSight_40
    · have hm := it_t hc hm
      refine lv_iconst (v := 1) hx hb dX5_fitAtSight_25 ci_1 ?_
      cases hm
      exact g_zret C hw (Or.inr rfl) dX5_fitAtSight_26
def mX5_enterParts_J83 (k3 : Int32 → Int32 → Int32 → Int32 → mI → mA → mL → mA → mA → Option (Int32 × mI × mA × mL × mA × mA)) (l1 : Int32) (l2 : Int32) (l3 : Int32) (l4 : Int32) (l5 : Int32) (l6 : Int32) (l7 : Int32) (s0 : Int32) (iv : mI) (ar : mA) (la : mL) (pA : mA) (pB : mA) : Option (Int32 × mI × mA × mL × mA × mA) := if l7 = 0 then obc (mX5_enter s0 l6 l4 l3 iv ar la pA pB) (fun r98 iv98 ar98 la98 pA98 pB98 => k3 l1 l2 l3 (l4 + 1) iv98 ar98 la98 pA98 pB98) else obc (mX5_enter s0 l5 l4 l3 iv ar la pA pB) (fun r98 iv98 ar98 la98 pA98 pB98 => k3 l1 l2 l3 (l4 + 1) iv98 ar98 la98 pA98 pB98)
set_option maxRecDepth 100000 in
set_option maxHeartbeats 4000000 in
theorem wX5_enterParts_J83 {k3 : Int32 → Int32 → Int32 → Int32 → mI → mA → mL → mA → mA → Option (Int32 × mI × mA × mL × mA × mA)} (C : mCx p s m args meth c RX5 cX5_enterParts 8 none D cI cJ A) (hk3 : ∀ (l1 : Int32) (l2 : Int32) (l3 : Int32) (l4 : Int32) (iv : mI) (ar : mA) (la : mL) (pA : mA) (pB : mA) (rz : Int32) (ivz : mI) (arz : mA) (laz : mL) (pAz : mA) (pBz : mA), k3 l1 l2 l3 l4 iv ar la pA pB = some (rz, ivz, arz, laz, pAz, pBz) → ∀ (H : Heap) (locs : List Loc) (ls : Array Slot), lv_has ls 8 [(0, .ref (oc 5)), (1, .int l1), (2, .int l2), (3, .int l3), (4, .int l4)] → inW D A s (wC cI cJ oc ac pa pb aa ab xp xs tp cp mp iv ar la pA pB) H locs → W p l e (rmO 1 27) s m args below meth c H locs 0 0 (MQ below (ctQv D cI cJ (wC cI cJ oc ac pa pb aa ab xp xs tp cp mp ivz arz laz pAz pBz) A) args s 0 0 A) (F0 m 3 ls [])) : ∀ (l1 : Int32) (l2 : Int32) (l3 : Int32) (l4 : Int32) (l5 : Int32) (l6 : Int32) (l7 : Int32) (s0 : Int32) (iv : mI) (ar : mA) (la : mL) (pA : mA) (pB : mA) (rz : Int32) (ivz : mI) (arz : mA) (laz : mL) (pAz : mA) (pBz : mA), mX5_enterParts_J83 k3 l1 l2 l3 l4 l5 l6 l7 s0 iv ar la pA pB = some (rz, ivz, arz, laz, pAz, pBz) → ∀ (H : Heap) (locs : List Loc) (ls : Array Slot), lv_has ls 8 [(0, .ref (oc 5)), (1, .int l1), (2, .int l2), (3, .int l3), (4, .int l4), (5, .int l5), (6, .int l6), (7, .int l7)] → inW D A s (wC cI cJ oc ac pa pb aa ab xp xs tp cp mp iv ar la pA pB) H locs → W p l e (rmO 1 27) s m args below meth c H locs 0 0 (MQ below (ctQv D cI cJ (wC cI cJ oc ac pa pb aa ab xp xs tp cp mp ivz arz laz pAz pBz) A) args s 0 0 A) (F0 m 83 ls [.int s0, .ref (oc 5)]) := by
  intro l1 l2 l3 l4 l5 l6 l7 s0 iv ar la pA pB rz ivz arz laz pAz pBz hm H locs ls hl hw
  have hx := C.1.1
  have hb := C.1.2.1
  unfold mX5_enterParts_J83 at hm
  refine lv_iload hx hb dX5_enterParts_83 (lv_at hl 7 rfl) ?_
  refine lv_if_eq (tgt := 93) hx hb dX5_enterParts_85 (by decide) (fun hc => ?_) (fun hc => ?_)
  · have hm := it_t hc hm
    refine lv_iload hx hb dX5_enterParts_93 (lv_at hl 6 rfl) ?_
    refine lv_iload hx hb dX5_enterParts_95 (lv_at hl 4 rfl) ?_
    refine lv_iload_n hx hb dX5_enterParts_97 rfl (lv_at hl 3 rfl) ?_
    obtain ⟨r98, iv98, ar98, la98, pA98, pB98, hc98, hm⟩ := obc_some hm
    refine g_callv (As := [.int s0, .int l6, .int l4, .int l3]) (rest := []) C hw (kX5_enter hc98) mtX5_enter lkX5_43 oC5 hl.1 rfl rfl (Nat.le_of_ble_eq_true rfl) ⟨Nat.le_of_ble_eq_true rfl, Nat.le_of_ble_eq_true rfl⟩ dX5_enterParts_98 ⟨Nat.zero_le _, Nat.zero_le _⟩ (fun H locs hw => ?_)
    refine lv_iinc (v := (l4 + 1)) (lv' := [(4, .int (l4 + 1)), (0, .ref (oc 5)), (1, .int l1), (2, .int l2), (3, .int l3), (5, .int l5), (6, .int l6), (7, .int l7)]) hx hb dX5_enterParts_101 hl (k := 4) rfl (ii_ ci_1) (by decide) rfl (fun ls hl => ?_)
    refine lv_goto (tgt := 3) hx hb dX5_enterParts_104 (by decide) ?_
    exact hk3 _ _ _ _ _ _ _ _ _ _ _ _ _ _ _ hm _ _ _ (lv_sub hl [1, 2, 3, 4, 0] rfl) hw
  · have hm := it_f hc hm
    refine lv_iload hx hb dX5_enterParts_88 (lv_at hl 5 rfl) ?_
    refine lv_goto (tgt := 95) hx hb dX5_enterParts_90 (by decide) ?_
    refine lv_iload hx hb dX5_enterParts_95 (lv_at hl 4 rfl) ?_
    refine lv_iload_n hx hb dX5_enterParts_97 rfl (lv_at hl 3 rfl) ?_
    obtain ⟨r98, iv98, ar98, la98, pA98, pB98, hc98, hm⟩ := obc_some hm
    refine g_callv (As := [.int s0, .int l5, .int l4, .int l3]) (rest := []) C hw (kX5_enter hc98) mtX5_enter lkX5_43 oC5 hl.1 rfl rfl (Nat.le_of_ble_eq_true rfl) ⟨Nat.le_of_ble_eq_true rfl, Nat.le_of_ble_eq_true rfl⟩ dX5_enterParts_98 ⟨Nat.zero_le _, Nat.zero_le _⟩ (fun H locs hw => ?_)
    refine lv_iinc (v := (l4 + 1)) (lv' := [(4, .int (l4 + 1)), (0, .ref (oc 5)), (1, .int l1), (2, .int l2), (3, .int l3), (5, .int l5), (6, .int l6), (7, .int l7)]) hx hb dX5_enterParts_101 hl (k := 4) rfl (ii_ ci_1) (by decide) rfl (fun ls hl => ?_)
    refine lv_goto (tgt := 3) hx hb dX5_enterParts_104 (by decide) ?_
    exact hk3 _ _ _ _ _ _ _ _ _ _ _ _ _ _ _ hm _ _ _ (lv_sub hl [1, 2, 3, 4, 0] rfl) hw
def mX5_enterParts_J56 (k3 : Int32 → Int32 → Int32 → Int32 → mI → mA → mL → mA → mA → Option (Int32 × mI × mA × mL × mA × mA)) (l1 : Int32) (l2 : Int32) (l3 : Int32) (l4 : Int32) (l5 : Int32) (l6 : Int32) (s0 : Int32) (iv : mI) (ar : mA) (la : mL) (pA : mA) (pB : mA) : Option (Int32 × mI × mA × mL × mA × mA) := if l5 = (-1) then k3 l1 l2 l3 (l4 + 1) iv ar la pA pB else if l6 = (-1) then k3 l1 l2 l3 (l4 + 1) iv ar la pA pB else if s0 = 0 then mX5_enterParts_J83 k3 l1 l2 l3 l4 l5 l6 s0 l5 iv ar la pA pB else mX5_enterParts_J83 k3 l1 l2 l3 l4 l5 l6 s0 l6 iv ar la pA pB
set_option maxRecDepth 100000 in
set_option maxHeartbeats 4000000 in
theorem wX5_enterParts_J56 {k3 : Int32 → Int32 → Int32 → Int32 → mI → mA → mL → mA → mA → Option (Int32 × mI × mA × mL × mA × mA)} (C : mCx p s m args meth c RX5 cX5_enterParts 8 none D cI cJ A) (hk3 : ∀ (l1 : Int32) (l2 : Int32) (l3 : Int32) (l4 : Int32) (iv : mI) (ar : mA) (la : mL) (pA : mA) (pB : mA) (rz : Int32) (ivz : mI) (arz : mA) (laz : mL) (pAz : mA) (pBz : mA), k3 l1 l2 l3 l4 iv ar la pA pB = some (rz, ivz, arz, laz, pAz, pBz) → ∀ (H : Heap) (locs : List Loc) (ls : Array Slot), lv_has ls 8 [(0, .ref (oc 5)), (1, .int l1), (2, .int l2), (3, .int l3), (4, .int l4)] → inW D A s (wC cI cJ oc ac pa pb aa ab xp xs tp cp mp iv ar la pA pB) H locs → W p l e (rmO 1 27) s m args below meth c H locs 0 0 (MQ below (ctQv D cI cJ (wC cI cJ oc ac pa pb aa ab xp xs tp cp mp ivz arz laz pAz pBz) A) args s 0 0 A) (F0 m 3 ls [])) : ∀ (l1 : Int32) (l2 : Int32) (l3 : Int32) (l4 : Int32) (l5 : Int32) (l6 : Int32) (s0 : Int32) (iv : mI) (ar : mA) (la : mL) (pA : mA) (pB : mA) (rz : Int32) (ivz : mI) (arz : mA) (laz : mL) (pAz : mA) (pBz : mA), mX5_enterParts_J56 k3 l1 l2 l3 l4 l5 l6 s0 iv ar la pA pB = some (rz, ivz, arz, laz, pAz, pBz) → ∀ (H : Heap) (locs : List Loc) (ls : Array Slot), lv_has ls 8 [(0, .ref (oc 5)), (1, .int l1), (2, .int l2), (3, .int l3), (4, .int l4), (5, .int l5), (6, .int l6)] → inW D A s (wC cI cJ oc ac pa pb aa ab xp xs tp cp mp iv ar la pA pB) H locs → W p l e (rmO 1 27) s m args below meth c H locs 0 0 (MQ below (ctQv D cI cJ (wC cI cJ oc ac pa pb aa ab xp xs tp cp mp ivz arz laz pAz pBz) A) args s 0 0 A) (F0 m 56 ls [.int s0]) := by
  intro l1 l2 l3 l4 l5 l6 s0 iv ar la pA pB rz ivz arz laz pAz pBz hm H locs ls hl hw
  have hx := C.1.1
  have hb := C.1.2.1
  unfold mX5_enterParts_J56 at hm
  refine lv_istore (lv' := [(7, .int s0), (0, .ref (oc 5)), (1, .int l1), (2, .int l2), (3, .int l3), (4, .int l4), (5, .int l5), (6, .int l6)]) hx hb dX5_enterParts_56 hl (by decide) rfl (fun ls hl => ?_)
  refine lv_iload hx hb dX5_enterParts_58 (lv_at hl 6 rfl) ?_
  refine lv_iconst (v := (-1)) hx hb dX5_enterParts_60 ci_m1 ?_
  refine lv_icmp_eq (tgt := 101) hx hb dX5_enterParts_61 (by decide) (fun hc => ?_) (fun hc => ?_)
  · have hm := it_t hc hm
    refine lv_iinc (v := (l4 + 1)) (lv' := [(4, .int (l4 + 1)), (7, .int s0), (0, .ref (oc 5)), (1, .int l1), (2, .int l2), (3, .int l3), (5, .int l5), (6, .int l6)]) hx hb dX5_enterParts_101 hl (k := 5) rfl (ii_ ci_1) (by decide) rfl (fun ls hl => ?_)
    refine lv_goto (tgt := 3) hx hb dX5_enterParts_104 (by decide) ?_
    exact hk3 _ _ _ _ _ _ _ _ _ _ _ _ _ _ _ hm _ _ _ (lv_sub hl [2, 3, 4, 5, 0] rfl) hw
  · have hm := it_f hc hm
    refine lv_iload hx hb dX5_enterParts_64 (lv_at hl 7 rfl) ?_
    refine lv_iconst (v := (-1)) hx hb dX5_enterParts_66 ci_m1 ?_
    refine lv_icmp_eq (tgt := 101) hx hb dX5_enterParts_67 (by decide) (fun hc => ?_) (fun hc => ?_)
    · have hm := it_t hc hm
      refine lv_iinc (v := (l4 + 1)) (lv' := [(4, .int (l4 + 1)), (7, .int s0), (0, .ref (oc 5)), (1, .int l1), (2, .int l2), (3, .int l3), (5, .int l5), (6, .int l6)]) hx hb dX5_enterParts_101 hl (k := 5) rfl (ii_ ci_1) (by decide) rfl (fun ls hl => ?_)
      refine lv_goto (tgt := 3) hx hb dX5_enterParts_104 (by decide) ?_
      exact hk3 _ _ _ _ _ _ _ _ _ _ _ _ _ _ _ hm _ _ _ (lv_sub hl [2, 3, 4, 5, 0] rfl) hw
    · have hm := it_f hc hm
      refine lv_aload_n hx hb dX5_enterParts_70 rfl (lv_at hl 1 rfl) ?_
      refine lv_iload hx hb dX5_enterParts_71 (lv_at hl 0 rfl) ?_
      refine lv_if_eq (tgt := 81) hx hb dX5_enterParts_73 (by decide) (fun hc => ?_) (fun hc => ?_)
      · have hm := it_t hc hm
        refine lv_iload hx hb dX5_enterParts_81 (lv_at hl 6 rfl) ?_
        exact wX5_enterParts_J83 C hk3 _ _ _ _ _ _ _ _ _ _ _ _ _ _ _ _ _ _ _ hm _ _ _ (lv_sub hl [1, 2, 3, 4, 5, 6, 7, 0] rfl) hw
      · have hm := it_f hc hm
        refine lv_iload hx hb dX5_enterParts_76 (lv_at hl 7 rfl) ?_
        refine lv_goto (tgt := 83) hx hb dX5_enterParts_78 (by decide) ?_
        exact wX5_enterParts_J83 C hk3 _ _ _ _ _ _ _ _ _ _ _ _ _ _ _ _ _ _ _ hm _ _ _ (lv_sub hl [1, 2, 3, 4, 5, 6, 7, 0] rfl) hw
def mX5_enterParts_L3 : Nat → Int32 → Int32 → Int32 → Int32 → mI → mA → mL → mA → mA → Option (Int32 × mI × mA × mL × mA × mA)
  | 0, _, _, _, _, _, _, _, _, _ => none
  | n + 1, l1, l2, l3, l4, iv, ar, la, pA, pB => if 8 ≤ l4 then some (0, iv, ar, la, pA, pB) else obc (mX3_partOf l1 l4 iv ar la pA pB) (fun r17 iv17 ar17 la17 pA17 pB17 => obc (mX3_partOf l2 l4 iv17 ar17 la17 pA17 pB17) (fun r29 iv29 ar29 la29 pA29 pB29 => obc (mX3_kindOf l1 iv29 ar29 la29 pA29 pB29) (fun r39 iv39 ar39 la39 pA39 pB39 => if r39 = 4 then if l4 = 0 then mX5_enterParts_J56 (mX5_enterParts_L3 n) l1 l2 l3 l4 r17 r29 1 iv39 ar39 la39 pA39 pB39 else mX5_enterParts_J56 (mX5_enterParts_L3 n) l1 l2 l3 l4 r17 r29 0 iv39 ar39 la39 pA39 pB39 else mX5_enterParts_J56 (mX5_enterParts_L3 n) l1 l2 l3 l4 r17 r29 0 iv39 ar39 la39 pA39 pB39)))
set_option maxRecDepth 100000 in
set_option maxHeartbeats 4000000 in
theorem wX5_enterParts_L3 (C : mCx p s m args meth c RX5 cX5_enterParts 8 none D cI cJ A) (n : Nat) : ∀ (l1 : Int32) (l2 : Int32) (l3 : Int32) (l4 : Int32) (iv : mI) (ar : mA) (la : mL) (pA : mA) (pB : mA) (rz : Int32) (ivz : mI) (arz : mA) (laz : mL) (pAz : mA) (pBz : mA), mX5_enterParts_L3 n l1 l2 l3 l4 iv ar la pA pB = some (rz, ivz, arz, laz, pAz, pBz) → ∀ (H : Heap) (locs : List Loc) (ls : Array Slot), lv_has ls 8 [(0, .ref (oc 5)), (1, .int l1), (2, .int l2), (3, .int l3), (4, .int l4)] → inW D A s (wC cI cJ oc ac pa pb aa ab xp xs tp cp mp iv ar la pA pB) H locs → W p l e (rmO 1 27) s m args below meth c H locs 0 0 (MQ below (ctQv D cI cJ (wC cI cJ oc ac pa pb aa ab xp xs tp cp mp ivz arz laz pAz pBz) A) args s 0 0 A) (F0 m 3 ls []) := by
  induction n with
  | zero =>
    intro l1 l2 l3 l4 iv ar la pA pB rz ivz arz laz pAz pBz hm H locs ls hl hw
    have hm : (none : Option (Int32 × mI × mA × mL × mA × mA)) = some _ := hm
    cases hm
  | succ n ih =>
    intro l1 l2 l3 l4 iv ar la pA pB rz ivz arz laz pAz pBz hm H locs ls hl hw
    have hx := C.1.1
    have hb := C.1.2.1
    unfold mX5_enterParts_L3 at hm
    refine lv_iload hx hb dX5_enterParts_3 (lv_at hl 4 rfl) ?_
    refine lv_bipush (v := 8) hx hb dX5_enterParts_5 cb_8 ?_
    refine lv_icmp_ge (tgt := 107) hx hb dX5_enterParts_7 (by decide) (fun hc => ?_) (fun hc => ?_)
    · have hm := it_t hc hm
      cases hm
      exact g_vret C hw dX5_enterParts_107
    · have hm := it_f hc hm
      refine lv_aload_n hx hb dX5_enterParts_10 rfl (lv_at hl 0 rfl) ?_
      refine g_get C hw gC5_0 dX5_enterParts_11 ?_
      refine lv_iload_n hx hb dX5_enterParts_14 rfl (lv_at hl 1 rfl) ?_
      refine lv_iload hx hb dX5_enterParts_15 (lv_at hl 4 rfl) ?_
      obtain ⟨r17, iv17, ar17, la17, pA17, pB17, hc17, hm⟩ := obc_some hm
      refine g_calli (As := [.int l1, .int l4]) (rest := []) C hw (kX3_partOf hc17) mtX3_partOf lkX5_65 oC3 hl.1 rfl rfl (Nat.le_of_ble_eq_true rfl) ⟨Nat.le_of_ble_eq_true rfl, Nat.le_of_ble_eq_true rfl⟩ dX5_enterParts_17 ⟨Nat.zero_le _, Nat.zero_le _⟩ (fun H locs hw => ?_)
      refine lv_istore (lv' := [(5, .int r17), (0, .ref (oc 5)), (1, .int l1), (2, .int l2), (3, .int l3), (4, .int l4)]) hx hb dX5_enterParts_20 hl (by decide) rfl (fun ls hl => ?_)
      refine lv_aload_n hx hb dX5_enterParts_22 rfl (lv_at hl 1 rfl) ?_
      refine g_get C hw gC5_0 dX5_enterParts_23 ?_
      refine lv_iload_n hx hb dX5_enterParts_26 rfl (lv_at hl 3 rfl) ?_
      refine lv_iload hx hb dX5_enterParts_27 (lv_at hl 5 rfl) ?_
      obtain ⟨r29, iv29, ar29, la29, pA29, pB29, hc29, hm⟩ := obc_some hm
      refine g_calli (As := [.int l2, .int l4]) (rest := []) C hw (kX3_partOf hc29) mtX3_partOf lkX5_65 oC3 hl.1 rfl rfl (Nat.le_of_ble_eq_true rfl) ⟨Nat.le_of_ble_eq_true rfl, Nat.le_of_ble_eq_true rfl⟩ dX5_enterParts_29 ⟨Nat.zero_le _, Nat.zero_le _⟩ (fun H locs hw => ?_)
      refine lv_istore (lv' := [(6, .int r29), (5, .int r17), (0, .ref (oc 5)), (1, .int l1), (2, .int l2), (3, .int l3), (4, .int l4)]) hx hb dX5_enterParts_32 hl (by decide) rfl (fun ls hl => ?_)
      refine lv_aload_n hx hb dX5_enterParts_34 rfl (lv_at hl 2 rfl) ?_
      refine g_get C hw gC5_0 dX5_enterParts_35 ?_
      refine lv_iload_n hx hb dX5_enterParts_38 rfl (lv_at hl 3 rfl) ?_
      obtain ⟨r39, iv39, ar39, la39, pA39, pB39, hc39, hm⟩ := obc_some hm
      refine g_calli (As := [.int l1]) (rest := []) C hw (kX3_kindOf hc39) mtX3_kindOf lkX5_57 oC3 hl.1 rfl rfl (Nat.le_of_ble_eq_true rfl) ⟨Nat.le_of_ble_eq_true rfl, Nat.le_of_ble_eq_true rfl⟩ dX5_enterParts_39 ⟨Nat.zero_le _, Nat.zero_le _⟩ (fun H locs hw => ?_)
      refine lv_iconst (v := 4) hx hb dX5_enterParts_42 ci_4 ?_
      refine lv_icmp_ne (tgt := 55) hx hb dX5_enterParts_43 (by decide) (fun hc => ?_) (fun hc => ?_)
      · have hm := it_f hc hm
        refine lv_iconst (v := 0) hx hb dX5_enterParts_55 ci_0 ?_
        exact wX5_enterParts_J56 C ih _ _ _ _ _ _ _ _ _ _ _ _ _ _ _ _ _ _ hm _ _ _ (lv_sub hl [2, 3, 4, 5, 6, 1, 0] rfl) hw
      · have hm := it_t hc hm
        refine lv_iload hx hb dX5_enterParts_46 (lv_at hl 6 rfl) ?_
        refine lv_if_ne (tgt := 55) hx hb dX5_enterParts_48 (by decide) (fun hc => ?_) (fun hc => ?_)
        · have hm := it_f hc hm
          refine lv_iconst (v := 0) hx hb dX5_enterParts_55 ci_0 ?_
          exact wX5_enterParts_J56 C ih _ _ _ _ _ _ _ _ _ _ _ _ _ _ _ _ _ _ hm _ _ _ (lv_sub hl [2, 3, 4, 5, 6, 1, 0] rfl) hw
        · have hm := it_t hc hm
          refine lv_iconst (v := 1) hx hb dX5_enterParts_51 ci_1 ?_
          refine lv_goto (tgt := 56) hx hb dX5_enterParts_52 (by decide) ?_
          exact wX5_enterParts_J56 C ih _ _ _ _ _ _ _ _ _ _ _ _ _ _ _ _ _ _ hm _ _ _ (lv_sub hl [2, 3, 4, 5, 6, 1, 0] rfl) hw
def mX5_enterParts (a1 : Int32) (a2 : Int32) (a3 : Int32) (iv : mI) (ar : mA) (la : mL) (pA : mA) (pB : mA) : Option (Int32 × mI × mA × mL × mA × mA) := mX5_enterParts_L3 bigF a1 a2 a3 0 iv ar la pA pB
set_option maxRecDepth 100000 in
set_option maxHeartbeats 4000000 in
theorem kX5_enterParts {a1 a2 a3 : Int32} {iv ivz : mI} {ar arz : mA} {la laz : mL} {pA pAz : mA} {pB pBz : mA} {rz : Int32} (hm : mX5_enterParts a1 a2 a3 iv ar la pA pB = some (rz, ivz, arz, laz, pAz, pBz)) : CtV l D cI cJ yX5_enterParts cX5_enterParts 8 1 27 [.ref (oc 5), .int a1, .int a2, .int a3] (wC cI cJ oc ac pa pb aa ab xp xs tp cp mp iv ar la pA pB) (wC cI cJ oc ac pa pb aa ab xp xs tp cp mp ivz arz laz pAz pBz) := by
  intro sz
  refine ct_of (by decide) (Nat.le_of_ble_eq_true rfl) ?_
  intro p e s m args below meth c C hw ls hl
  have hl : lv_has ls 8 [(0, .ref (oc 5)), (1, .int a1), (2, .int a2), (3, .int a3)] := hl
  have hx := C.1.1
  have hb := C.1.2.1
  unfold mX5_enterParts at hm
  refine lv_iconst (v := 0) hx hb dX5_enterParts_0 ci_0 ?_
  refine lv_istore (lv' := [(4, .int 0), (0, .ref (oc 5)), (1, .int a1), (2, .int a2), (3, .int a3)]) hx hb dX5_enterParts_1 hl (by decide) rfl (fun ls hl => ?_)
  exact wX5_enterParts_L3 C bigF _ _ _ _ _ _ _ _ _ _ _ _ _ _ _ hm _ _ _ (lv_sub hl [1, 2, 3, 4, 0] rfl) hw
def mX5_search_L14 : Nat → Int32 → mI → mA → mL → mA → mA → Option (Int32 × mI × mA × mL × mA × mA)
  | 0, _, _, _, _, _, _ => none
  | n + 1, l3, iv, ar, la, pA, pB => if (iv 503) ≤ l3 then some ((-1), iv, ar, la, pA, pB) else if 40000 ≤ l3 then some ((-1), iv, ar, la, pA, pB) else if l3 < 0 ∨ 40000 ≤ l3.toNatClampNeg then none else if l3 < 0 ∨ 40000 ≤ l3.toNatClampNeg then none else obc (mX5_fitAtSight ((((la 501 l3.toNatClampNeg) >>> (Int32.toInt64 8 &&& 63)) &&& 255).toInt32) (((la 501 l3.toNatClampNeg) &&& 255).toInt32) iv ar la pA pB) (fun r62 iv62 ar62 la62 pA62 pB62 => if r62 = 0 then some (l3, iv62, ar62, la62, pA62, pB62) else obc (mX5_enterParts ((((la 501 l3.toNatClampNeg) >>> (Int32.toInt64 8 &&& 63)) &&& 255).toInt32) (((la 501 l3.toNatClampNeg) &&& 255).toInt32) l3 iv62 ar62 la62 pA62 pB62) (fun r76 iv76 ar76 la76 pA76 pB76 => mX5_search_L14 n (l3 + 1) iv76 ar76 la76 pA76 pB76))
set_option maxRecDepth 100000 in
set_option maxHeartbeats 4000000 in
theorem wX5_search_L14 (C : mCx p s m args meth c RX5 cX5_search 6 (some .int) D cI cJ A) (n : Nat) : ∀ (l3 : Int32) (iv : mI) (ar : mA) (la : mL) (pA : mA) (pB : mA) (rz : Int32) (ivz : mI) (arz : mA) (laz : mL) (pAz : mA) (pBz : mA), mX5_search_L14 n l3 iv ar la pA pB = some (rz, ivz, arz, laz, pAz, pBz) → ∀ (H : Heap) (locs : List Loc) (ls : Array Slot), lv_has ls 6 [(0, .ref (oc 5)), (3, .int l3)] → inW D A s (wC cI cJ oc ac pa pb aa ab xp xs tp cp mp iv ar la pA pB) H locs → W p l e (rmO 2 54) s m args below meth c H locs 0 0 (MQ below (ctQ D cI cJ (wC cI cJ oc ac pa pb aa ab xp xs tp cp mp ivz arz laz pAz pBz) A rz) args s 0 0 A) (F0 m 14 ls []) := by
  induction n with
  | zero =>
    intro l3 iv ar la pA pB rz ivz arz laz pAz pBz hm H locs ls hl hw
    have hm : (none : Option (Int32 × mI × mA × mL × mA × mA)) = some _ := hm
    cases hm
  | succ n ih =>
    intro l3 iv ar la pA pB rz ivz arz laz pAz pBz hm H locs ls hl hw
    have hx := C.1.1
    have hb := C.1.2.1
    have hown := C.1.2.2.2.1
    unfold mX5_search_L14 at hm
    refine lv_iload_n hx hb dX5_search_14 rfl (lv_at hl 1 rfl) ?_
    refine lv_aload_n hx hb dX5_search_15 rfl (lv_at hl 0 rfl) ?_
    refine g_get C hw gC5_3 dX5_search_16 ?_
    refine lv_icmp_ge (tgt := 85) hx hb dX5_search_19 (by decide) (fun hc => ?_) (fun hc => ?_)
    · have hm := it_t hc hm
      refine lv_iconst (v := (-1)) hx hb dX5_search_85 ci_m1 ?_
      cases hm
      exact g_iret C hw dX5_search_86
    · have hm := it_f hc hm
      refine lv_iload_n hx hb dX5_search_22 rfl (lv_at hl 1 rfl) ?_
      refine lv_ldc hx hb hown (C.1.2.2.2.2 _ cstX5_11) dX5_search_23 ?_
      refine lv_icmp_ge (tgt := 85) hx hb dX5_search_25 (by decide) (fun hc => ?_) (fun hc => ?_)
      · have hm := it_t hc hm
        refine lv_iconst (v := (-1)) hx hb dX5_search_85 ci_m1 ?_
        cases hm
        exact g_iret C hw dX5_search_86
      · have hm := it_f hc hm
        refine lv_aload_n hx hb dX5_search_28 rfl (lv_at hl 0 rfl) ?_
        refine g_get C hw gC5_1 dX5_search_29 ?_
        refine lv_iload_n hx hb dX5_search_32 rfl (lv_at hl 1 rfl) ?_
        obtain ⟨hi, hm⟩ := it_a hm
        refine g_lald C hw aC5_1 hi dX5_search_33 ?_
        refine lv_bipush (v := 8) hx hb dX5_search_34 cb_8 ?_
        refine lv_lshr hx hb dX5_search_36 rfl ?_
        refine lv_ldc2 hx hb hown (C.1.2.2.2.2 _ cstX5_47) dX5_search_37 ?_
        refine lv_land hx hb dX5_search_40 ?_
        refine lv_l2i hx hb dX5_search_41 rfl ?_
        refine lv_istore (lv' := [(4, .int ((((la 501 l3.toNatClampNeg) >>> (Int32.toInt64 8 &&& 63)) &&& 255).toInt32)), (0, .ref (oc 5)), (3, .int l3)]) hx hb dX5_search_42 hl (by decide) rfl (fun ls hl => ?_)
        refine lv_aload_n hx hb dX5_search_44 rfl (lv_at hl 1 rfl) ?_
        refine g_get C hw gC5_1 dX5_search_45 ?_
        refine lv_iload_n hx hb dX5_search_48 rfl (lv_at hl 2 rfl) ?_
        obtain ⟨hi, hm⟩ := it_a hm
        refine g_lald C hw aC5_1 hi dX5_search_49 ?_
        refine lv_ldc2 hx hb hown (C.1.2.2.2.2 _ cstX5_47) dX5_search_50 ?_
        refine lv_land hx hb dX5_search_53 ?_
        refine lv_l2i hx hb dX5_search_54 rfl ?_
        refine lv_istore (lv' := [(5, .int (((la 501 l3.toNatClampNeg) &&& 255).toInt32)), (4, .int ((((la 501 l3.toNatClampNeg) >>> (Int32.toInt64 8 &&& 63)) &&& 255).toInt32)), (0, .ref (oc 5)), (3, .int l3)]) hx hb dX5_search_55 hl (by decide) rfl (fun ls hl => ?_)
        refine lv_aload_n hx hb dX5_search_57 rfl (lv_at hl 2 rfl) ?_
        refine lv_iload hx hb dX5_search_58 (lv_at hl 1 rfl) ?_
        refine lv_iload hx hb dX5_search_60 (lv_at hl 0 rfl) ?_
        obtain ⟨r62, iv62, ar62, la62, pA62, pB62, hc62, hm⟩ := obc_some hm
        refine g_calli (As := [.int ((((la 501 l3.toNatClampNeg) >>> (Int32.toInt64 8 &&& 63)) &&& 255).toInt32), .int (((la 501 l3.toNatClampNeg) &&& 255).toInt32)]) (rest := []) C hw (kX5_fitAtSight hc62) mtX5_fitAtSight lkX5_49 oC5 hl.1 rfl rfl (Nat.le_of_ble_eq_true rfl) ⟨Nat.le_of_ble_eq_true rfl, Nat.le_of_ble_eq_true rfl⟩ dX5_search_62 ⟨Nat.zero_le _, Nat.zero_le _⟩ (fun H locs hw => ?_)
        refine lv_if_ne (tgt := 70) hx hb dX5_search_65 (by decide) (fun hc => ?_) (fun hc => ?_)
        · have hm := it_f hc hm
          refine lv_aload_n hx hb dX5_search_70 rfl (lv_at hl 2 rfl) ?_
          refine lv_iload hx hb dX5_search_71 (lv_at hl 1 rfl) ?_
          refine lv_iload hx hb dX5_search_73 (lv_at hl 0 rfl) ?_
          refine lv_iload_n hx hb dX5_search_75 rfl (lv_at hl 3 rfl) ?_
          obtain ⟨r76, iv76, ar76, la76, pA76, pB76, hc76, hm⟩ := obc_some hm
          refine g_callv (As := [.int ((((la 501 l3.toNatClampNeg) >>> (Int32.toInt64 8 &&& 63)) &&& 255).toInt32), .int (((la 501 l3.toNatClampNeg) &&& 255).toInt32), .int l3]) (rest := []) C hw (kX5_enterParts hc76) mtX5_enterParts lkX5_53 oC5 hl.1 rfl rfl (Nat.le_of_ble_eq_true rfl) ⟨Nat.le_of_ble_eq_true rfl, Nat.le_of_ble_eq_true rfl⟩ dX5_search_76 ⟨Nat.zero_le _, Nat.zero_le _⟩ (fun H locs hw => ?_)
          refine lv_iinc (v := (l3 + 1)) (lv' := [(3, .int (l3 + 1)), (5, .int (((la 501 l3.toNatClampNeg) &&& 255).toInt32)), (4, .int ((((la 501 l3.toNatClampNeg) >>> (Int32.toInt64 8 &&& 63)) &&& 255).toInt32)), (0, .ref (oc 5))]) hx hb dX5_search_79 hl (k := 3) rfl (ii_ ci_1) (by decide) rfl (fun ls hl => ?_)
          refine lv_goto (tgt := 14) hx hb dX5_search_82 (by decide) ?_
          exact ih _ _ _ _ _ _ _ _ _ _ _ _ hm _ _ _ (lv_sub hl [3, 0] rfl) hw
        · have hm := it_t hc hm
          refine lv_iload_n hx hb dX5_search_68 rfl (lv_at hl 3 rfl) ?_
          cases hm
          exact g_iret C hw dX5_search_69
def mX5_search (a1 : Int32) (a2 : Int32) (iv : mI) (ar : mA) (la : mL) (pA : mA) (pB : mA) : Option (Int32 × mI × mA × mL × mA × mA) := obc (mX5_forget iv ar la pA pB) (fun r1 iv1 ar1 la1 pA1 pB1 => obc (mX5_enter a1 a2 0 0 iv1 ar1 la1 pA1 pB1) (fun r9 iv9 ar9 la9 pA9 pB9 => mX5_search_L14 bigF 0 iv9 ar9 la9 pA9 pB9))
set_option maxRecDepth 100000 in
set_option maxHeartbeats 4000000 in
theorem kX5_search {a1 a2 : Int32} {iv ivz : mI} {ar arz : mA} {la laz : mL} {pA pAz : mA} {pB pBz : mA} {rz : Int32} (hm : mX5_search a1 a2 iv ar la pA pB = some (rz, ivz, arz, laz, pAz, pBz)) : Ct l D cI cJ yX5_search cX5_search 6 (some .int) 2 54 [.ref (oc 5), .int a1, .int a2] (wC cI cJ oc ac pa pb aa ab xp xs tp cp mp iv ar la pA pB) (wC cI cJ oc ac pa pb aa ab xp xs tp cp mp ivz arz laz pAz pBz) rz := by
  intro sz
  refine ct_of (by decide) (Nat.le_of_ble_eq_true rfl) ?_
  intro p e s m args below meth c C hw ls hl
  have hl : lv_has ls 6 [(0, .ref (oc 5)), (1, .int a1), (2, .int a2)] := hl
  have hx := C.1.1
  have hb := C.1.2.1
  unfold mX5_search at hm
  refine lv_aload_n hx hb dX5_search_0 rfl (lv_at hl 0 rfl) ?_
  obtain ⟨r1, iv1, ar1, la1, pA1, pB1, hc1, hm⟩ := obc_some hm
  refine g_callv (As := []) (rest := []) C hw (kX5_forget hc1) mtX5_forget lkX5_40 oC5 hl.1 rfl rfl (Nat.le_of_ble_eq_true rfl) ⟨Nat.le_of_ble_eq_true rfl, Nat.le_of_ble_eq_true rfl⟩ dX5_search_1 ⟨Nat.zero_le _, Nat.zero_le _⟩ (fun H locs hw => ?_)
  refine lv_aload_n hx hb dX5_search_4 rfl (lv_at hl 0 rfl) ?_
  refine lv_iload_n hx hb dX5_search_5 rfl (lv_at hl 1 rfl) ?_
  refine lv_iload_n hx hb dX5_search_6 rfl (lv_at hl 2 rfl) ?_
  refine lv_iconst (v := 0) hx hb dX5_search_7 ci_0 ?_
  refine lv_iconst (v := 0) hx hb dX5_search_8 ci_0 ?_
  obtain ⟨r9, iv9, ar9, la9, pA9, pB9, hc9, hm⟩ := obc_some hm
  refine g_callv (As := [.int a1, .int a2, .int 0, .int 0]) (rest := []) C hw (kX5_enter hc9) mtX5_enter lkX5_43 oC5 hl.1 rfl rfl (Nat.le_of_ble_eq_true rfl) ⟨Nat.le_of_ble_eq_true rfl, Nat.le_of_ble_eq_true rfl⟩ dX5_search_9 ⟨Nat.zero_le _, Nat.zero_le _⟩ (fun H locs hw => ?_)
  refine lv_iconst (v := 0) hx hb dX5_search_12 ci_0 ?_
  refine lv_istore_n (lv' := [(3, .int 0), (0, .ref (oc 5)), (1, .int a1), (2, .int a2)]) hx hb dX5_search_13 rfl hl (by decide) rfl (fun ls hl => ?_)
  exact wX5_search_L14 C bigF _ _ _ _ _ _ _ _ _ _ _ _ hm _ _ _ (lv_sub hl [1, 0] rfl) hw
def mX2_typeOfApply_J52 (l1 : Int32) (s0 : Int32) (iv : mI) (ar : mA) (la : mL) (pA : mA) (pB : mA) : Option (Int32 × mI × mA × mL × mA × mA) := if s0 = 0 then some ((-15), iv, ar, la, pA, pB) else obc (mX3_partOf l1 1 iv ar la pA pB) (fun r63 iv63 ar63 la63 pA63 pB63 => some (r63, iv63, ar63, la63, pA63, pB63))
set_option maxRecDepth 100000 in
set_option maxHeartbeats 4000000 in
theorem wX2_typeOfApply_J52 (C : mCx p s m args meth c RX2 cX2_typeOfApply 4 (some .int) D cI cJ A) : ∀ (l1 : Int32) (s0 : Int32) (iv : mI) (ar : mA) (la : mL) (pA : mA) (pB : mA) (rz : Int32) (ivz : mI) (arz : mA) (laz : mL) (pAz : mA) (pBz : mA), mX2_typeOfApply_J52 l1 s0 iv ar la pA pB = some (rz, ivz, arz, laz, pAz, pBz) → ∀ (H : Heap) (locs : List Loc) (ls : Array Slot), lv_has ls 4 [(0, .ref (oc 2)), (1, .int l1)] → inW D A s (wC cI cJ oc ac pa pb aa ab xp xs tp pb mp iv ar la pA pB) H locs → W p l e (rmO 3 79) s m args below meth c H locs 0 0 (MQ below (ctQ D cI cJ (wC cI cJ oc ac pa pb aa ab xp xs tp pb mp ivz arz laz pAz pBz) A rz) args s 0 0 A) (F0 m 52 ls [.int s0]) := by
  intro l1 s0 iv ar la pA pB rz ivz arz laz pAz pBz hm H locs ls hl hw
  have hx := C.1.1
  have hb := C.1.2.1
  unfold mX2_typeOfApply_J52 at hm
  refine lv_istore_n (lv' := [(3, .int s0), (0, .ref (oc 2)), (1, .int l1)]) hx hb dX2_typeOfApply_52 rfl hl (by decide) rfl (fun ls hl => ?_)
  refine lv_iload_n hx hb dX2_typeOfApply_53 rfl (lv_at hl 0 rfl) ?_
  refine lv_if_eq (tgt := 69) hx hb dX2_typeOfApply_54 (by decide) (fun hc => ?_) (fun hc => ?_)
  · have hm := it_t hc hm
    refine lv_bipush (v := (-15)) hx hb dX2_typeOfApply_69 cb_m15 ?_
    cases hm
    exact g_iret C hw dX2_typeOfApply_71
  · have hm := it_f hc hm
    refine lv_aload_n hx hb dX2_typeOfApply_57 rfl (lv_at hl 1 rfl) ?_
    refine g_get C hw gC2_0 dX2_typeOfApply_58 ?_
    refine lv_iload_n hx hb dX2_typeOfApply_61 rfl (lv_at hl 2 rfl) ?_
    refine lv_iconst (v := 1) hx hb dX2_typeOfApply_62 ci_1 ?_
    obtain ⟨r63, iv63, ar63, la63, pA63, pB63, hc63, hm⟩ := obc_some hm
    refine g_calli (As := [.int l1, .int 1]) (rest := []) C hw (kX3_partOf hc63) mtX3_partOf lkX2_92 oC3 hl.1 rfl rfl (Nat.le_of_ble_eq_true rfl) ⟨Nat.le_of_ble_eq_true rfl, Nat.le_of_ble_eq_true rfl⟩ dX2_typeOfApply_63 ⟨Nat.zero_le _, Nat.zero_le _⟩ (fun H locs hw => ?_)
    refine lv_goto (tgt := 71) hx hb dX2_typeOfApply_66 (by decide) ?_
    cases hm
    exact g_iret C hw dX2_typeOfApply_71
def mX2_typeOfApply (a1 : Int32) (a2 : Int32) (iv : mI) (ar : mA) (la : mL) (pA : mA) (pB : mA) : Option (Int32 × mI × mA × mL × mA × mA) := obc (mX3_kindOf a1 iv ar la pA pB) (fun r5 iv5 ar5 la5 pA5 pB5 => if r5 = 1 then some (a1, iv5, ar5, la5, pA5, pB5) else obc (mX3_kindOf a1 iv5 ar5 la5 pA5 pB5) (fun r19 iv19 ar19 la19 pA19 pB19 => if r19 = 4 then obc (mX3_partOf a1 0 iv19 ar19 la19 pA19 pB19) (fun r37 iv37 ar37 la37 pA37 pB37 => obc (mX5_search a2 r37 iv37 ar37 la37 pA37 pB37) (fun r40 iv40 ar40 la40 pA40 pB40 => if r40 = (-1) then mX2_typeOfApply_J52 a1 1 iv40 ar40 la40 pA40 pB40 else mX2_typeOfApply_J52 a1 0 iv40 ar40 la40 pA40 pB40)) else mX2_typeOfApply_J52 a1 0 iv19 ar19 la19 pA19 pB19))
set_option maxRecDepth 100000 in
set_option maxHeartbeats 4000000 in
theorem kX2_typeOfApply {a1 a2 : Int32} {iv ivz : mI} {ar arz : mA} {la laz : mL} {pA pAz : mA} {pB pBz : mA} {rz : Int32} (hm : mX2_typeOfApply a1 a2 iv ar la pA pB = some (rz, ivz, arz, laz, pAz, pBz)) : Ct l D cI cJ yX2_typeOfApply cX2_typeOfApply 4 (some .int) 3 79 [.ref (oc 2), .int a1, .int a2] (wC cI cJ oc ac pa pb aa ab xp xs tp pb mp iv ar la pA pB) (wC cI cJ oc ac pa pb aa ab xp xs tp pb mp ivz arz laz pAz pBz) rz := by
  intro sz
  refine ct_of (by decide) (Nat.le_of_ble_eq_true rfl) ?_
  intro p e s m args below meth c C hw ls hl
  have hl : lv_has ls 4 [(0, .ref (oc 2)), (1, .int a1), (2, .int a2)] := hl
  have hx := C.1.1
  have hb := C.1.2.1
  unfold mX2_typeOfApply at hm
  refine lv_aload_n hx hb dX2_typeOfApply_0 rfl (lv_at hl 0 rfl) ?_
  refine g_get C hw gC2_0 dX2_typeOfApply_1 ?_
  refine lv_iload_n hx hb dX2_typeOfApply_4 rfl (lv_at hl 1 rfl) ?_
  obtain ⟨r5, iv5, ar5, la5, pA5, pB5, hc5, hm⟩ := obc_some hm
  refine g_calli (As := [.int a1]) (rest := []) C hw (kX3_kindOf hc5) mtX3_kindOf lkX2_87 oC3 hl.1 rfl rfl (Nat.le_of_ble_eq_true rfl) ⟨Nat.le_of_ble_eq_true rfl, Nat.le_of_ble_eq_true rfl⟩ dX2_typeOfApply_5 ⟨Nat.zero_le _, Nat.zero_le _⟩ (fun H locs hw => ?_)
  refine lv_iconst (v := 1) hx hb dX2_typeOfApply_8 ci_1 ?_
  refine lv_icmp_ne (tgt := 14) hx hb dX2_typeOfApply_9 (by decide) (fun hc => ?_) (fun hc => ?_)
  · have hm := it_f hc hm
    refine lv_aload_n hx hb dX2_typeOfApply_14 rfl (lv_at hl 0 rfl) ?_
    refine g_get C hw gC2_0 dX2_typeOfApply_15 ?_
    refine lv_iload_n hx hb dX2_typeOfApply_18 rfl (lv_at hl 1 rfl) ?_
    obtain ⟨r19, iv19, ar19, la19, pA19, pB19, hc19, hm⟩ := obc_some hm
    refine g_calli (As := [.int a1]) (rest := []) C hw (kX3_kindOf hc19) mtX3_kindOf lkX2_87 oC3 hl.1 rfl rfl (Nat.le_of_ble_eq_true rfl) ⟨Nat.le_of_ble_eq_true rfl, Nat.le_of_ble_eq_true rfl⟩ dX2_typeOfApply_19 ⟨Nat.zero_le _, Nat.zero_le _⟩ (fun H locs hw => ?_)
    refine lv_iconst (v := 4) hx hb dX2_typeOfApply_22 ci_4 ?_
    refine lv_icmp_ne (tgt := 51) hx hb dX2_typeOfApply_23 (by decide) (fun hc => ?_) (fun hc => ?_)
    · have hm := it_f hc hm
      refine lv_iconst (v := 0) hx hb dX2_typeOfApply_51 ci_0 ?_
      exact wX2_typeOfApply_J52 C _ _ _ _ _ _ _ _ _ _ _ _ _ hm _ _ _ (lv_sub hl [0, 1] rfl) hw
    · have hm := it_t hc hm
      refine lv_aload_n hx hb dX2_typeOfApply_26 rfl (lv_at hl 0 rfl) ?_
      refine g_get C hw gC2_1 dX2_typeOfApply_27 ?_
      refine lv_iload_n hx hb dX2_typeOfApply_30 rfl (lv_at hl 2 rfl) ?_
      refine lv_aload_n hx hb dX2_typeOfApply_31 rfl (lv_at hl 0 rfl) ?_
      refine g_get C hw gC2_0 dX2_typeOfApply_32 ?_
      refine lv_iload_n hx hb dX2_typeOfApply_35 rfl (lv_at hl 1 rfl) ?_
      refine lv_iconst (v := 0) hx hb dX2_typeOfApply_36 ci_0 ?_
      obtain ⟨r37, iv37, ar37, la37, pA37, pB37, hc37, hm⟩ := obc_some hm
      refine g_calli (As := [.int a1, .int 0]) (rest := [.int a2, .ref (oc 5)]) C hw (kX3_partOf hc37) mtX3_partOf lkX2_92 oC3 hl.1 rfl rfl (Nat.le_of_ble_eq_true rfl) ⟨Nat.le_of_ble_eq_true rfl, Nat.le_of_ble_eq_true rfl⟩ dX2_typeOfApply_37 ⟨Nat.zero_le _, Nat.zero_le _⟩ (fun H locs hw => ?_)
      obtain ⟨r40, iv40, ar40, la40, pA40, pB40, hc40, hm⟩ := obc_some hm
      refine g_calli (As := [.int a2, .int r37]) (rest := []) C hw (kX5_search hc40) mtX5_search lkX2_145 oC5 hl.1 rfl rfl (Nat.le_of_ble_eq_true rfl) ⟨Nat.le_of_ble_eq_true rfl, Nat.le_of_ble_eq_true rfl⟩ dX2_typeOfApply_40 ⟨Nat.zero_le _, Nat.zero_le _⟩ (fun H locs hw => ?_)
      refine lv_iconst (v := (-1)) hx hb dX2_typeOfApply_43 ci_m1 ?_
      refine lv_icmp_ne (tgt := 51) hx hb dX2_typeOfApply_44 (by decide) (fun hc => ?_) (fun hc => ?_)
      · have hm := it_f hc hm
        refine lv_iconst (v := 0) hx hb dX2_typeOfApply_51 ci_0 ?_
        exact wX2_typeOfApply_J52 C _ _ _ _ _ _ _ _ _ _ _ _ _ hm _ _ _ (lv_sub hl [0, 1] rfl) hw
      · have hm := it_t hc hm
        refine lv_iconst (v := 1) hx hb dX2_typeOfApply_47 ci_1 ?_
        refine lv_goto (tgt := 52) hx hb dX2_typeOfApply_48 (by decide) ?_
        exact wX2_typeOfApply_J52 C _ _ _ _ _ _ _ _ _ _ _ _ _ hm _ _ _ (lv_sub hl [0, 1] rfl) hw
  · have hm := it_t hc hm
    refine lv_iload_n hx hb dX2_typeOfApply_12 rfl (lv_at hl 1 rfl) ?_
    cases hm
    exact g_iret C hw dX2_typeOfApply_13
def mX2_isOrNothing (a1 : Int32) (a2 : Int32) (iv : mI) (ar : mA) (la : mL) (pA : mA) (pB : mA) : Option (Int32 × mI × mA × mL × mA × mA) := obc (mX3_kindOf a1 iv ar la pA pB) (fun r5 iv5 ar5 la5 pA5 pB5 => if r5 = a2 then some (1, iv5, ar5, la5, pA5, pB5) else obc (mX3_kindOf a1 iv5 ar5 la5 pA5 pB5) (fun r17 iv17 ar17 la17 pA17 pB17 => if r17 = 1 then some (1, iv17, ar17, la17, pA17, pB17) else some (0, iv17, ar17, la17, pA17, pB17)))
set_option maxRecDepth 100000 in
set_option maxHeartbeats 4000000 in
theorem kX2_isOrNothing {a1 a2 : Int32} {iv ivz : mI} {ar arz : mA} {la laz : mL} {pA pAz : mA} {pB pBz : mA} {rz : Int32} (hm : mX2_isOrNothing a1 a2 iv ar la pA pB = some (rz, ivz, arz, laz, pAz, pBz)) : Ct l D cI cJ yX2_isOrNothing cX2_isOrNothing 3 (some .boolean) 1 21 [.ref (oc 2), .int a1, .int a2] (wC cI cJ oc ac pa pb aa ab xp xs tp pb mp iv ar la pA pB) (wC cI cJ oc ac pa pb aa ab xp xs tp pb mp ivz arz laz pAz pBz) rz := by
  intro sz
  refine ct_of (by decide) (Nat.le_of_ble_eq_true rfl) ?_
  intro p e s m args below meth c C hw ls hl
  have hl : lv_has ls 3 [(0, .ref (oc 2)), (1, .int a1), (2, .int a2)] := hl
  have hx := C.1.1
  have hb := C.1.2.1
  unfold mX2_isOrNothing at hm
  refine lv_aload_n hx hb dX2_isOrNothing_0 rfl (lv_at hl 0 rfl) ?_
  refine g_get C hw gC2_0 dX2_isOrNothing_1 ?_
  refine lv_iload_n hx hb dX2_isOrNothing_4 rfl (lv_at hl 1 rfl) ?_
  obtain ⟨r5, iv5, ar5, la5, pA5, pB5, hc5, hm⟩ := obc_some hm
  refine g_calli (As := [.int a1]) (rest := []) C hw (kX3_kindOf hc5) mtX3_kindOf lkX2_87 oC3 hl.1 rfl rfl (Nat.le_of_ble_eq_true rfl) ⟨Nat.le_of_ble_eq_true rfl, Nat.le_of_ble_eq_true rfl⟩ dX2_isOrNothing_5 ⟨Nat.zero_le _, Nat.zero_le _⟩ (fun H locs hw => ?_)
  refine lv_iload_n hx hb dX2_isOrNothing_8 rfl (lv_at hl 2 rfl) ?_
  refine lv_icmp_eq (tgt := 24) hx hb dX2_isOrNothing_9 (by decide) (fun hc => ?_) (fun hc => ?_)
  · have hm := it_t hc hm
    refine lv_iconst (v := 1) hx hb dX2_isOrNothing_24 ci_1 ?_
    refine lv_goto (tgt := 29) hx hb dX2_isOrNothing_25 (by decide) ?_
    cases hm
    exact g_zret C hw (Or.inr rfl) dX2_isOrNothing_29
  · have hm := it_f hc hm
    refine lv_aload_n hx hb dX2_isOrNothing_12 rfl (lv_at hl 0 rfl) ?_
    refine g_get C hw gC2_0 dX2_isOrNothing_13 ?_
    refine lv_iload_n hx hb dX2_isOrNothing_16 rfl (lv_at hl 1 rfl) ?_
    obtain ⟨r17, iv17, ar17, la17, pA17, pB17, hc17, hm⟩ := obc_some hm
    refine g_calli (As := [.int a1]) (rest := []) C hw (kX3_kindOf hc17) mtX3_kindOf lkX2_87 oC3 hl.1 rfl rfl (Nat.le_of_ble_eq_true rfl) ⟨Nat.le_of_ble_eq_true rfl, Nat.le_of_ble_eq_true rfl⟩ dX2_isOrNothing_17 ⟨Nat.zero_le _, Nat.zero_le _⟩ (fun H locs hw => ?_)
    refine lv_iconst (v := 1) hx hb dX2_isOrNothing_20 ci_1 ?_
    refine lv_icmp_ne (tgt := 28) hx hb dX2_isOrNothing_21 (by decide) (fun hc => ?_) (fun hc => ?_)
    · have hm := it_f hc hm
      refine lv_iconst (v := 0) hx hb dX2_isOrNothing_28 ci_0 ?_
      cases hm
      exact g_zret C hw (Or.inl rfl) dX2_isOrNothing_29
    · have hm := it_t hc hm
      refine lv_iconst (v := 1) hx hb dX2_isOrNothing_24 ci_1 ?_
      refine lv_goto (tgt := 29) hx hb dX2_isOrNothing_25 (by decide) ?_
      cases hm
      exact g_zret C hw (Or.inr rfl) dX2_isOrNothing_29
def mX2_bothNumbers (a1 : Int32) (iv : mI) (ar : mA) (la : mL) (pA : mA) (pB : mA) : Option (Int32 × mI × mA × mL × mA × mA) := obc (mX2_typeIn a1 0 iv ar la pA pB) (fun r4 iv4 ar4 la4 pA4 pB4 => obc (mX2_isOrNothing r4 2 iv4 ar4 la4 pA4 pB4) (fun r8 iv8 ar8 la8 pA8 pB8 => if r8 = 0 then some (0, iv8, ar8, la8, pA8, pB8) else obc (mX2_typeIn a1 1 iv8 ar8 la8 pA8 pB8) (fun r18 iv18 ar18 la18 pA18 pB18 => obc (mX2_isOrNothing r18 2 iv18 ar18 la18 pA18 pB18) (fun r22 iv22 ar22 la22 pA22 pB22 => if r22 = 0 then some (0, iv22, ar22, la22, pA22, pB22) else some (1, iv22, ar22, la22, pA22, pB22)))))
set_option maxRecDepth 100000 in
set_option maxHeartbeats 4000000 in
theorem kX2_bothNumbers {a1 : Int32} {iv ivz : mI} {ar arz : mA} {la laz : mL} {pA pAz : mA} {pB pBz : mA} {rz : Int32} (hm : mX2_bothNumbers a1 iv ar la pA pB = some (rz, ivz, arz, laz, pAz, pBz)) : Ct l D cI cJ yX2_bothNumbers cX2_bothNumbers 2 (some .boolean) 2 46 [.ref (oc 2), .int a1] (wC cI cJ oc ac pa pb aa ab xp xs tp pb mp iv ar la pA pB) (wC cI cJ oc ac pa pb aa ab xp xs tp pb mp ivz arz laz pAz pBz) rz := by
  intro sz
  refine ct_of (by decide) (Nat.le_of_ble_eq_true rfl) ?_
  intro p e s m args below meth c C hw ls hl
  have hl : lv_has ls 2 [(0, .ref (oc 2)), (1, .int a1)] := hl
  have hx := C.1.1
  have hb := C.1.2.1
  unfold mX2_bothNumbers at hm
  refine lv_aload_n hx hb dX2_bothNumbers_0 rfl (lv_at hl 0 rfl) ?_
  refine lv_aload_n hx hb dX2_bothNumbers_1 rfl (lv_at hl 0 rfl) ?_
  refine lv_iload_n hx hb dX2_bothNumbers_2 rfl (lv_at hl 1 rfl) ?_
  refine lv_iconst (v := 0) hx hb dX2_bothNumbers_3 ci_0 ?_
  obtain ⟨r4, iv4, ar4, la4, pA4, pB4, hc4, hm⟩ := obc_some hm
  refine g_calli (As := [.int a1, .int 0]) (rest := [.ref (oc 2)]) C hw (kX2_typeIn hc4) mtX2_typeIn lkX2_84 oC2 hl.1 rfl rfl (Nat.le_of_ble_eq_true rfl) ⟨Nat.le_of_ble_eq_true rfl, Nat.le_of_ble_eq_true rfl⟩ dX2_bothNumbers_4 ⟨Nat.zero_le _, Nat.zero_le _⟩ (fun H locs hw => ?_)
  refine lv_iconst (v := 2) hx hb dX2_bothNumbers_7 ci_2 ?_
  obtain ⟨r8, iv8, ar8, la8, pA8, pB8, hc8, hm⟩ := obc_some hm
  refine g_calli (As := [.int r4, .int 2]) (rest := []) C hw (kX2_isOrNothing hc8) mtX2_isOrNothing lkX2_122 oC2 hl.1 rfl rfl (Nat.le_of_ble_eq_true rfl) ⟨Nat.le_of_ble_eq_true rfl, Nat.le_of_ble_eq_true rfl⟩ dX2_bothNumbers_8 ⟨Nat.zero_le _, Nat.zero_le _⟩ (fun H locs hw => ?_)
  refine lv_if_eq (tgt := 32) hx hb dX2_bothNumbers_11 (by decide) (fun hc => ?_) (fun hc => ?_)
  · have hm := it_t hc hm
    refine lv_iconst (v := 0) hx hb dX2_bothNumbers_32 ci_0 ?_
    cases hm
    exact g_zret C hw (Or.inl rfl) dX2_bothNumbers_33
  · have hm := it_f hc hm
    refine lv_aload_n hx hb dX2_bothNumbers_14 rfl (lv_at hl 0 rfl) ?_
    refine lv_aload_n hx hb dX2_bothNumbers_15 rfl (lv_at hl 0 rfl) ?_
    refine lv_iload_n hx hb dX2_bothNumbers_16 rfl (lv_at hl 1 rfl) ?_
    refine lv_iconst (v := 1) hx hb dX2_bothNumbers_17 ci_1 ?_
    obtain ⟨r18, iv18, ar18, la18, pA18, pB18, hc18, hm⟩ := obc_some hm
    refine g_calli (As := [.int a1, .int 1]) (rest := [.ref (oc 2)]) C hw (kX2_typeIn hc18) mtX2_typeIn lkX2_84 oC2 hl.1 rfl rfl (Nat.le_of_ble_eq_true rfl) ⟨Nat.le_of_ble_eq_true rfl, Nat.le_of_ble_eq_true rfl⟩ dX2_bothNumbers_18 ⟨Nat.zero_le _, Nat.zero_le _⟩ (fun H locs hw => ?_)
    refine lv_iconst (v := 2) hx hb dX2_bothNumbers_21 ci_2 ?_
    obtain ⟨r22, iv22, ar22, la22, pA22, pB22, hc22, hm⟩ := obc_some hm
    refine g_calli (As := [.int r18, .int 2]) (rest := []) C hw (kX2_isOrNothing hc22) mtX2_isOrNothing lkX2_122 oC2 hl.1 rfl rfl (Nat.le_of_ble_eq_true rfl) ⟨Nat.le_of_ble_eq_true rfl, Nat.le_of_ble_eq_true rfl⟩ dX2_bothNumbers_22 ⟨Nat.zero_le _, Nat.zero_le _⟩ (fun H locs hw => ?_)
    refine lv_if_eq (tgt := 32) hx hb dX2_bothNumbers_25 (by decide) (fun hc => ?_) (fun hc => ?_)
    · have hm := it_t hc hm
      refine lv_iconst (v := 0) hx hb dX2_bothNumbers_32 ci_0 ?_
      cases hm
      exact g_zret C hw (Or.inl rfl) dX2_bothNumbers_33
    · have hm := it_f hc hm
      refine lv_iconst (v := 1) hx hb dX2_bothNumbers_28 ci_1 ?_
      refine lv_goto (tgt := 33) hx hb dX2_bothNumbers_29 (by decide) ?_
      cases hm
      exact g_zret C hw (Or.inr rfl) dX2_bothNumbers_33
def mX6_labelOfB (a1 : Int32) (iv : mI) (ar : mA) (la : mL) (pA : mA) (pB : mA) : Option (Int32 × mI × mA × mL × mA × mA) := if a1 ≤ 0 then some ((-1), iv, ar, la, pA, pB) else if 200 < a1 then some ((-1), iv, ar, la, pA, pB) else if (a1 - 1) < 0 ∨ 200 ≤ (a1 - 1).toNatClampNeg then none else some ((pB 0 (a1 - 1).toNatClampNeg), iv, ar, la, pA, pB)
set_option maxRecDepth 100000 in
set_option maxHeartbeats 4000000 in
theorem kX6_labelOfB {a1 : Int32} {iv ivz : mI} {ar arz : mA} {la laz : mL} {pA pAz : mA} {pB pBz : mA} {rz : Int32} (hm : mX6_labelOfB a1 iv ar la pA pB = some (rz, ivz, arz, laz, pAz, pBz)) : Ct l D cI cJ yX6_labelOf cX6_labelOf 2 (some .int) 0 0 [.ref pb, .int a1] (wC cI cJ oc ac pa pb aa ab xp xs tp cp mp iv ar la pA pB) (wC cI cJ oc ac pa pb aa ab xp xs tp cp mp ivz arz laz pAz pBz) rz := by
  intro sz
  refine ct_of (by decide) (Nat.le_of_ble_eq_true rfl) ?_
  intro p e s m args below meth c C hw ls hl
  have hl : lv_has ls 2 [(0, .ref pb), (1, .int a1)] := hl
  have hx := C.1.1
  have hb := C.1.2.1
  unfold mX6_labelOfB at hm
  refine lv_iload_n hx hb dX6_labelOf_0 rfl (lv_at hl 1 rfl) ?_
  refine lv_if_le (tgt := 22) hx hb dX6_labelOf_1 (by decide) (fun hc => ?_) (fun hc => ?_)
  · have hm := it_t hc hm
    refine lv_iconst (v := (-1)) hx hb dX6_labelOf_22 ci_m1 ?_
    cases hm
    exact g_iret C hw dX6_labelOf_23
  · have hm := it_f hc hm
    refine lv_iload_n hx hb dX6_labelOf_4 rfl (lv_at hl 1 rfl) ?_
    refine lv_sipush (v := 200) hx hb dX6_labelOf_5 cs_200 ?_
    refine lv_icmp_gt (tgt := 22) hx hb dX6_labelOf_8 (by decide) (fun hc => ?_) (fun hc => ?_)
    · have hm := it_t hc hm
      refine lv_iconst (v := (-1)) hx hb dX6_labelOf_22 ci_m1 ?_
      cases hm
      exact g_iret C hw dX6_labelOf_23
    · have hm := it_f hc hm
      refine lv_aload_n hx hb dX6_labelOf_11 rfl (lv_at hl 0 rfl) ?_
      refine g_get C hw gC6B_0 dX6_labelOf_12 ?_
      refine lv_iload_n hx hb dX6_labelOf_15 rfl (lv_at hl 1 rfl) ?_
      refine lv_iconst (v := 1) hx hb dX6_labelOf_16 ci_1 ?_
      refine lv_isub hx hb dX6_labelOf_17 ?_
      obtain ⟨hi, hm⟩ := it_a hm
      refine g_ald C hw aC6B_0 hi dX6_labelOf_18 ?_
      refine lv_goto (tgt := 23) hx hb dX6_labelOf_19 (by decide) ?_
      cases hm
      exact g_iret C hw dX6_labelOf_23
def mX2_typeOfGather_L11 : Nat → Int32 → Int32 → Int32 → mI → mA → mL → mA → mA → Option (Int32 × mI × mA × mL × mA × mA)
  | 0, _, _, _, _, _, _, _, _ => none
  | n + 1, l1, l2, l3, iv, ar, la, pA, pB => obc (mX6_kidCountB l1 iv ar la pA pB) (fun r17 iv17 ar17 la17 pA17 pB17 => if r17 ≤ l3 then some (l2, iv17, ar17, la17, pA17, pB17) else obc (mX6_kidB l1 l3 iv17 ar17 la17 pA17 pB17) (fun r38 iv38 ar38 la38 pA38 pB38 => obc (mX6_labelOfB r38 iv38 ar38 la38 pA38 pB38) (fun r41 iv41 ar41 la41 pA41 pB41 => obc (mX2_typeIn l1 l3 iv41 ar41 la41 pA41 pB41) (fun r47 iv47 ar47 la47 pA47 pB47 => obc (mX3_setPart l2 r41 r47 iv47 ar47 la47 pA47 pB47) (fun r50 iv50 ar50 la50 pA50 pB50 => mX2_typeOfGather_L11 n l1 l2 (l3 + 1) iv50 ar50 la50 pA50 pB50)))))
set_option maxRecDepth 100000 in
set_option maxHeartbeats 4000000 in
theorem wX2_typeOfGather_L11 (C : mCx p s m args meth c RX2 cX2_typeOfGather 4 (some .int) D cI cJ A) (n : Nat) : ∀ (l1 : Int32) (l2 : Int32) (l3 : Int32) (iv : mI) (ar : mA) (la : mL) (pA : mA) (pB : mA) (rz : Int32) (ivz : mI) (arz : mA) (laz : mL) (pAz : mA) (pBz : mA), mX2_typeOfGather_L11 n l1 l2 l3 iv ar la pA pB = some (rz, ivz, arz, laz, pAz, pBz) → ∀ (H : Heap) (locs : List Loc) (ls : Array Slot), lv_has ls 4 [(0, .ref (oc 2)), (1, .int l1), (2, .int l2), (3, .int l3)] → inW D A s (wC cI cJ oc ac pa pb aa ab xp xs tp pb mp iv ar la pA pB) H locs → W p l e (rmO 2 46) s m args below meth c H locs 0 0 (MQ below (ctQ D cI cJ (wC cI cJ oc ac pa pb aa ab xp xs tp pb mp ivz arz laz pAz pBz) A rz) args s 0 0 A) (F0 m 11 ls []) := by
  induction n with
  | zero =>
    intro l1 l2 l3 iv ar la pA pB rz ivz arz laz pAz pBz hm H locs ls hl hw
    have hm : (none : Option (Int32 × mI × mA × mL × mA × mA)) = some _ := hm
    cases hm
  | succ n ih =>
    intro l1 l2 l3 iv ar la pA pB rz ivz arz laz pAz pBz hm H locs ls hl hw
    have hx := C.1.1
    have hb := C.1.2.1
    unfold mX2_typeOfGather_L11 at hm
    refine lv_iload_n hx hb dX2_typeOfGather_11 rfl (lv_at hl 3 rfl) ?_
    refine lv_aload_n hx hb dX2_typeOfGather_12 rfl (lv_at hl 0 rfl) ?_
    refine g_get C hw gC2_3 dX2_typeOfGather_13 ?_
    refine lv_iload_n hx hb dX2_typeOfGather_16 rfl (lv_at hl 1 rfl) ?_
    obtain ⟨r17, iv17, ar17, la17, pA17, pB17, hc17, hm⟩ := obc_some hm
    refine g_calli (As := [.int l1]) (rest := [.int l3]) C hw (kX6_kidCountB hc17) mtX6_kidCount lkX2_81 oC6B hl.1 rfl rfl (Nat.le_of_ble_eq_true rfl) ⟨Nat.le_of_ble_eq_true rfl, Nat.le_of_ble_eq_true rfl⟩ dX2_typeOfGather_17 ⟨Nat.zero_le _, Nat.zero_le _⟩ (fun H locs hw => ?_)
    refine lv_icmp_ge (tgt := 59) hx hb dX2_typeOfGather_20 (by decide) (fun hc => ?_) (fun hc => ?_)
    · have hm := it_t hc hm
      refine lv_iload_n hx hb dX2_typeOfGather_59 rfl (lv_at hl 2 rfl) ?_
      cases hm
      exact g_iret C hw dX2_typeOfGather_60
    · have hm := it_f hc hm
      refine lv_aload_n hx hb dX2_typeOfGather_23 rfl (lv_at hl 0 rfl) ?_
      refine g_get C hw gC2_0 dX2_typeOfGather_24 ?_
      refine lv_iload_n hx hb dX2_typeOfGather_27 rfl (lv_at hl 2 rfl) ?_
      refine lv_aload_n hx hb dX2_typeOfGather_28 rfl (lv_at hl 0 rfl) ?_
      refine g_get C hw gC2_3 dX2_typeOfGather_29 ?_
      refine lv_aload_n hx hb dX2_typeOfGather_32 rfl (lv_at hl 0 rfl) ?_
      refine g_get C hw gC2_3 dX2_typeOfGather_33 ?_
      refine lv_iload_n hx hb dX2_typeOfGather_36 rfl (lv_at hl 1 rfl) ?_
      refine lv_iload_n hx hb dX2_typeOfGather_37 rfl (lv_at hl 3 rfl) ?_
      obtain ⟨r38, iv38, ar38, la38, pA38, pB38, hc38, hm⟩ := obc_some hm
      refine g_calli (As := [.int l1, .int l3]) (rest := [.ref pb, .int l2, .ref (oc 3)]) C hw (kX6_kidB hc38) mtX6_kid lkX2_98 oC6B hl.1 rfl rfl (Nat.le_of_ble_eq_true rfl) ⟨Nat.le_of_ble_eq_true rfl, Nat.le_of_ble_eq_true rfl⟩ dX2_typeOfGather_38 ⟨Nat.zero_le _, Nat.zero_le _⟩ (fun H locs hw => ?_)
      obtain ⟨r41, iv41, ar41, la41, pA41, pB41, hc41, hm⟩ := obc_some hm
      refine g_calli (As := [.int r38]) (rest := [.int l2, .ref (oc 3)]) C hw (kX6_labelOfB hc41) mtX6_labelOf lkX2_75 oC6B hl.1 rfl rfl (Nat.le_of_ble_eq_true rfl) ⟨Nat.le_of_ble_eq_true rfl, Nat.le_of_ble_eq_true rfl⟩ dX2_typeOfGather_41 ⟨Nat.zero_le _, Nat.zero_le _⟩ (fun H locs hw => ?_)
      refine lv_aload_n hx hb dX2_typeOfGather_44 rfl (lv_at hl 0 rfl) ?_
      refine lv_iload_n hx hb dX2_typeOfGather_45 rfl (lv_at hl 1 rfl) ?_
      refine lv_iload_n hx hb dX2_typeOfGather_46 rfl (lv_at hl 3 rfl) ?_
      obtain ⟨r47, iv47, ar47, la47, pA47, pB47, hc47, hm⟩ := obc_some hm
      refine g_calli (As := [.int l1, .int l3]) (rest := [.int r41, .int l2, .ref (oc 3)]) C hw (kX2_typeIn hc47) mtX2_typeIn lkX2_84 oC2 hl.1 rfl rfl (Nat.le_of_ble_eq_true rfl) ⟨Nat.le_of_ble_eq_true rfl, Nat.le_of_ble_eq_true rfl⟩ dX2_typeOfGather_47 ⟨Nat.zero_le _, Nat.zero_le _⟩ (fun H locs hw => ?_)
      obtain ⟨r50, iv50, ar50, la50, pA50, pB50, hc50, hm⟩ := obc_some hm
      refine g_callv (As := [.int l2, .int r41, .int r47]) (rest := []) C hw (kX3_setPart hc50) mtX3_setPart lkX2_141 oC3 hl.1 rfl rfl (Nat.le_of_ble_eq_true rfl) ⟨Nat.le_of_ble_eq_true rfl, Nat.le_of_ble_eq_true rfl⟩ dX2_typeOfGather_50 ⟨Nat.zero_le _, Nat.zero_le _⟩ (fun H locs hw => ?_)
      refine lv_iinc (v := (l3 + 1)) (lv' := [(3, .int (l3 + 1)), (0, .ref (oc 2)), (1, .int l1), (2, .int l2)]) hx hb dX2_typeOfGather_53 hl (k := 3) rfl (ii_ ci_1) (by decide) rfl (fun ls hl => ?_)
      refine lv_goto (tgt := 11) hx hb dX2_typeOfGather_56 (by decide) ?_
      exact ih _ _ _ _ _ _ _ _ _ _ _ _ _ _ hm _ _ _ (lv_sub hl [1, 2, 3, 0] rfl) hw
def mX2_typeOfGather (a1 : Int32) (iv : mI) (ar : mA) (la : mL) (pA : mA) (pB : mA) : Option (Int32 × mI × mA × mL × mA × mA) := obc (mX3_make 5 iv ar la pA pB) (fun r5 iv5 ar5 la5 pA5 pB5 => mX2_typeOfGather_L11 bigF a1 r5 0 iv5 ar5 la5 pA5 pB5)
set_option maxRecDepth 100000 in
set_option maxHeartbeats 4000000 in
theorem kX2_typeOfGather {a1 : Int32} {iv ivz : mI} {ar arz : mA} {la laz : mL} {pA pAz : mA} {pB pBz : mA} {rz : Int32} (hm : mX2_typeOfGather a1 iv ar la pA pB = some (rz, ivz, arz, laz, pAz, pBz)) : Ct l D cI cJ yX2_typeOfGather cX2_typeOfGather 4 (some .int) 2 46 [.ref (oc 2), .int a1] (wC cI cJ oc ac pa pb aa ab xp xs tp pb mp iv ar la pA pB) (wC cI cJ oc ac pa pb aa ab xp xs tp pb mp ivz arz laz pAz pBz) rz := by
  intro sz
  refine ct_of (by decide) (Nat.le_of_ble_eq_true rfl) ?_
  intro p e s m args below meth c C hw ls hl
  have hl : lv_has ls 4 [(0, .ref (oc 2)), (1, .int a1)] := hl
  have hx := C.1.1
  have hb := C.1.2.1
  unfold mX2_typeOfGather at hm
  refine lv_aload_n hx hb dX2_typeOfGather_0 rfl (lv_at hl 0 rfl) ?_
  refine g_get C hw gC2_0 dX2_typeOfGather_1 ?_
  refine lv_iconst (v := 5) hx hb dX2_typeOfGather_4 ci_5 ?_
  obtain ⟨r5, iv5, ar5, la5, pA5, pB5, hc5, hm⟩ := obc_some hm
  refine g_calli (As := [.int 5]) (rest := []) C hw (kX3_make hc5) mtX3_make lkX2_95 oC3 hl.1 rfl rfl (Nat.le_of_ble_eq_true rfl) ⟨Nat.le_of_ble_eq_true rfl, Nat.le_of_ble_eq_true rfl⟩ dX2_typeOfGather_5 ⟨Nat.zero_le _, Nat.zero_le _⟩ (fun H locs hw => ?_)
  refine lv_istore_n (lv' := [(2, .int r5), (0, .ref (oc 2)), (1, .int a1)]) hx hb dX2_typeOfGather_8 rfl hl (by decide) rfl (fun ls hl => ?_)
  refine lv_iconst (v := 0) hx hb dX2_typeOfGather_9 ci_0 ?_
  refine lv_istore_n (lv' := [(3, .int 0), (2, .int r5), (0, .ref (oc 2)), (1, .int a1)]) hx hb dX2_typeOfGather_10 rfl hl (by decide) rfl (fun ls hl => ?_)
  exact wX2_typeOfGather_L11 C bigF _ _ _ _ _ _ _ _ _ _ _ _ _ _ hm _ _ _ (lv_sub hl [2, 3, 1, 0] rfl) hw
def mX2_typeOfPick_J39 (s0 : Int32) (iv : mI) (ar : mA) (la : mL) (pA : mA) (pB : mA) : Option (Int32 × mI × mA × mL × mA × mA) := if s0 = (-1) then some ((-15), iv, ar, la, pA, pB) else some (s0, iv, ar, la, pA, pB)
set_option maxRecDepth 100000 in
set_option maxHeartbeats 4000000 in
theorem wX2_typeOfPick_J39 (C : mCx p s m args meth c RX2 cX2_typeOfPick 4 (some .int) D cI cJ A) : ∀ (s0 : Int32) (iv : mI) (ar : mA) (la : mL) (pA : mA) (pB : mA) (rz : Int32) (ivz : mI) (arz : mA) (laz : mL) (pAz : mA) (pBz : mA), mX2_typeOfPick_J39 s0 iv ar la pA pB = some (rz, ivz, arz, laz, pAz, pBz) → ∀ (H : Heap) (locs : List Loc) (ls : Array Slot), lv_has ls 4 [] → inW D A s (wC cI cJ oc ac pa pb aa ab xp xs tp pb mp iv ar la pA pB) H locs → W p l e (rmO 1 23) s m args below meth c H locs 0 0 (MQ below (ctQ D cI cJ (wC cI cJ oc ac pa pb aa ab xp xs tp pb mp ivz arz laz pAz pBz) A rz) args s 0 0 A) (F0 m 39 ls [.int s0]) := by
  intro s0 iv ar la pA pB rz ivz arz laz pAz pBz hm H locs ls hl hw
  have hx := C.1.1
  have hb := C.1.2.1
  unfold mX2_typeOfPick_J39 at hm
  refine lv_istore_n (lv' := [(3, .int s0)]) hx hb dX2_typeOfPick_39 rfl hl (by decide) rfl (fun ls hl => ?_)
  refine lv_iload_n hx hb dX2_typeOfPick_40 rfl (lv_at hl 0 rfl) ?_
  refine lv_iconst (v := (-1)) hx hb dX2_typeOfPick_41 ci_m1 ?_
  refine lv_icmp_eq (tgt := 49) hx hb dX2_typeOfPick_42 (by decide) (fun hc => ?_) (fun hc => ?_)
  · have hm := it_t hc hm
    refine lv_bipush (v := (-15)) hx hb dX2_typeOfPick_49 cb_m15 ?_
    cases hm
    exact g_iret C hw dX2_typeOfPick_51
  · have hm := it_f hc hm
    refine lv_iload_n hx hb dX2_typeOfPick_45 rfl (lv_at hl 0 rfl) ?_
    refine lv_goto (tgt := 51) hx hb dX2_typeOfPick_46 (by decide) ?_
    cases hm
    exact g_iret C hw dX2_typeOfPick_51
def mX2_typeOfPick (a1 : Int32) (a2 : Int32) (iv : mI) (ar : mA) (la : mL) (pA : mA) (pB : mA) : Option (Int32 × mI × mA × mL × mA × mA) := obc (mX3_kindOf a1 iv ar la pA pB) (fun r5 iv5 ar5 la5 pA5 pB5 => if r5 = 1 then some (a1, iv5, ar5, la5, pA5, pB5) else obc (mX3_kindOf a1 iv5 ar5 la5 pA5 pB5) (fun r19 iv19 ar19 la19 pA19 pB19 => if r19 = 5 then obc (mX3_partOf a1 a2 iv19 ar19 la19 pA19 pB19) (fun r32 iv32 ar32 la32 pA32 pB32 => mX2_typeOfPick_J39 r32 iv32 ar32 la32 pA32 pB32) else mX2_typeOfPick_J39 (-1) iv19 ar19 la19 pA19 pB19))
set_option maxRecDepth 100000 in
set_option maxHeartbeats 4000000 in
theorem kX2_typeOfPick {a1 a2 : Int32} {iv ivz : mI} {ar arz : mA} {la laz : mL} {pA pAz : mA} {pB pBz : mA} {rz : Int32} (hm : mX2_typeOfPick a1 a2 iv ar la pA pB = some (rz, ivz, arz, laz, pAz, pBz)) : Ct l D cI cJ yX2_typeOfPick cX2_typeOfPick 4 (some .int) 1 23 [.ref (oc 2), .int a1, .int a2] (wC cI cJ oc ac pa pb aa ab xp xs tp pb mp iv ar la pA pB) (wC cI cJ oc ac pa pb aa ab xp xs tp pb mp ivz arz laz pAz pBz) rz := by
  intro sz
  refine ct_of (by decide) (Nat.le_of_ble_eq_true rfl) ?_
  intro p e s m args below meth c C hw ls hl
  have hl : lv_has ls 4 [(0, .ref (oc 2)), (1, .int a1), (2, .int a2)] := hl
  have hx := C.1.1
  have hb := C.1.2.1
  unfold mX2_typeOfPick at hm
  refine lv_aload_n hx hb dX2_typeOfPick_0 rfl (lv_at hl 0 rfl) ?_
  refine g_get C hw gC2_0 dX2_typeOfPick_1 ?_
  refine lv_iload_n hx hb dX2_typeOfPick_4 rfl (lv_at hl 1 rfl) ?_
  obtain ⟨r5, iv5, ar5, la5, pA5, pB5, hc5, hm⟩ := obc_some hm
  refine g_calli (As := [.int a1]) (rest := []) C hw (kX3_kindOf hc5) mtX3_kindOf lkX2_87 oC3 hl.1 rfl rfl (Nat.le_of_ble_eq_true rfl) ⟨Nat.le_of_ble_eq_true rfl, Nat.le_of_ble_eq_true rfl⟩ dX2_typeOfPick_5 ⟨Nat.zero_le _, Nat.zero_le _⟩ (fun H locs hw => ?_)
  refine lv_iconst (v := 1) hx hb dX2_typeOfPick_8 ci_1 ?_
  refine lv_icmp_ne (tgt := 14) hx hb dX2_typeOfPick_9 (by decide) (fun hc => ?_) (fun hc => ?_)
  · have hm := it_f hc hm
    refine lv_aload_n hx hb dX2_typeOfPick_14 rfl (lv_at hl 0 rfl) ?_
    refine g_get C hw gC2_0 dX2_typeOfPick_15 ?_
    refine lv_iload_n hx hb dX2_typeOfPick_18 rfl (lv_at hl 1 rfl) ?_
    obtain ⟨r19, iv19, ar19, la19, pA19, pB19, hc19, hm⟩ := obc_some hm
    refine g_calli (As := [.int a1]) (rest := []) C hw (kX3_kindOf hc19) mtX3_kindOf lkX2_87 oC3 hl.1 rfl rfl (Nat.le_of_ble_eq_true rfl) ⟨Nat.le_of_ble_eq_true rfl, Nat.le_of_ble_eq_true rfl⟩ dX2_typeOfPick_19 ⟨Nat.zero_le _, Nat.zero_le _⟩ (fun H locs hw => ?_)
    refine lv_iconst (v := 5) hx hb dX2_typeOfPick_22 ci_5 ?_
    refine lv_icmp_ne (tgt := 38) hx hb dX2_typeOfPick_23 (by decide) (fun hc => ?_) (fun hc => ?_)
    · have hm := it_f hc hm
      refine lv_iconst (v := (-1)) hx hb dX2_typeOfPick_38 ci_m1 ?_
      exact wX2_typeOfPick_J39 C _ _ _ _ _ _ _ _ _ _ _ _ hm _ _ _ (lv_sub hl [] rfl) hw
    · have hm := it_t hc hm
      refine lv_aload_n hx hb dX2_typeOfPick_26 rfl (lv_at hl 0 rfl) ?_
      refine g_get C hw gC2_0 dX2_typeOfPick_27 ?_
      refine lv_iload_n hx hb dX2_typeOfPick_30 rfl (lv_at hl 1 rfl) ?_
      refine lv_iload_n hx hb dX2_typeOfPick_31 rfl (lv_at hl 2 rfl) ?_
      obtain ⟨r32, iv32, ar32, la32, pA32, pB32, hc32, hm⟩ := obc_some hm
      refine g_calli (As := [.int a1, .int a2]) (rest := []) C hw (kX3_partOf hc32) mtX3_partOf lkX2_92 oC3 hl.1 rfl rfl (Nat.le_of_ble_eq_true rfl) ⟨Nat.le_of_ble_eq_true rfl, Nat.le_of_ble_eq_true rfl⟩ dX2_typeOfPick_32 ⟨Nat.zero_le _, Nat.zero_le _⟩ (fun H locs hw => ?_)
      refine lv_goto (tgt := 39) hx hb dX2_typeOfPick_35 (by decide) ?_
      exact wX2_typeOfPick_J39 C _ _ _ _ _ _ _ _ _ _ _ _ hm _ _ _ (lv_sub hl [] rfl) hw
  · have hm := it_t hc hm
    refine lv_iload_n hx hb dX2_typeOfPick_12 rfl (lv_at hl 1 rfl) ?_
    cases hm
    exact g_iret C hw dX2_typeOfPick_13
def mX2_typeOfTag (a1 : Int32) (a2 : Int32) (a3 : Int32) (iv : mI) (ar : mA) (la : mL) (pA : mA) (pB : mA) : Option (Int32 × mI × mA × mL × mA × mA) := obc (mX3_partOf a1 a2 iv ar la pA pB) (fun r11 iv11 ar11 la11 pA11 pB11 => obc (mX5_search a3 r11 iv11 ar11 la11 pA11 pB11) (fun r14 iv14 ar14 la14 pA14 pB14 => if r14 = (-1) then some (a1, iv14, ar14, la14, pA14, pB14) else some ((-15), iv14, ar14, la14, pA14, pB14)))
set_option maxRecDepth 100000 in
set_option maxHeartbeats 4000000 in
theorem kX2_typeOfTag {a1 a2 a3 : Int32} {iv ivz : mI} {ar arz : mA} {la laz : mL} {pA pAz : mA} {pB pBz : mA} {rz : Int32} (hm : mX2_typeOfTag a1 a2 a3 iv ar la pA pB = some (rz, ivz, arz, laz, pAz, pBz)) : Ct l D cI cJ yX2_typeOfTag cX2_typeOfTag 4 (some .int) 3 79 [.ref (oc 2), .int a1, .int a2, .int a3] (wC cI cJ oc ac pa pb aa ab xp xs tp pb mp iv ar la pA pB) (wC cI cJ oc ac pa pb aa ab xp xs tp pb mp ivz arz laz pAz pBz) rz := by
  intro sz
  refine ct_of (by decide) (Nat.le_of_ble_eq_true rfl) ?_
  intro p e s m args below meth c C hw ls hl
  have hl : lv_has ls 4 [(0, .ref (oc 2)), (1, .int a1), (2, .int a2), (3, .int a3)] := hl
  have hx := C.1.1
  have hb := C.1.2.1
  unfold mX2_typeOfTag at hm
  refine lv_aload_n hx hb dX2_typeOfTag_0 rfl (lv_at hl 0 rfl) ?_
  refine g_get C hw gC2_1 dX2_typeOfTag_1 ?_
  refine lv_iload_n hx hb dX2_typeOfTag_4 rfl (lv_at hl 3 rfl) ?_
  refine lv_aload_n hx hb dX2_typeOfTag_5 rfl (lv_at hl 0 rfl) ?_
  refine g_get C hw gC2_0 dX2_typeOfTag_6 ?_
  refine lv_iload_n hx hb dX2_typeOfTag_9 rfl (lv_at hl 1 rfl) ?_
  refine lv_iload_n hx hb dX2_typeOfTag_10 rfl (lv_at hl 2 rfl) ?_
  obtain ⟨r11, iv11, ar11, la11, pA11, pB11, hc11, hm⟩ := obc_some hm
  refine g_calli (As := [.int a1, .int a2]) (rest := [.int a3, .ref (oc 5)]) C hw (kX3_partOf hc11) mtX3_partOf lkX2_92 oC3 hl.1 rfl rfl (Nat.le_of_ble_eq_true rfl) ⟨Nat.le_of_ble_eq_true rfl, Nat.le_of_ble_eq_true rfl⟩ dX2_typeOfTag_11 ⟨Nat.zero_le _, Nat.zero_le _⟩ (fun H locs hw => ?_)
  obtain ⟨r14, iv14, ar14, la14, pA14, pB14, hc14, hm⟩ := obc_some hm
  refine g_calli (As := [.int a3, .int r11]) (rest := []) C hw (kX5_search hc14) mtX5_search lkX2_145 oC5 hl.1 rfl rfl (Nat.le_of_ble_eq_true rfl) ⟨Nat.le_of_ble_eq_true rfl, Nat.le_of_ble_eq_true rfl⟩ dX2_typeOfTag_14 ⟨Nat.zero_le _, Nat.zero_le _⟩ (fun H locs hw => ?_)
  refine lv_iconst (v := (-1)) hx hb dX2_typeOfTag_17 ci_m1 ?_
  refine lv_icmp_ne (tgt := 25) hx hb dX2_typeOfTag_18 (by decide) (fun hc => ?_) (fun hc => ?_)
  · have hm := it_f hc hm
    refine lv_bipush (v := (-15)) hx hb dX2_typeOfTag_25 cb_m15 ?_
    cases hm
    exact g_iret C hw dX2_typeOfTag_27
  · have hm := it_t hc hm
    refine lv_iload_n hx hb dX2_typeOfTag_21 rfl (lv_at hl 1 rfl) ?_
    refine lv_goto (tgt := 27) hx hb dX2_typeOfTag_22 (by decide) ?_
    cases hm
    exact g_iret C hw dX2_typeOfTag_27
def mX2_typeOfSort_L16 : Nat → Int32 → Int32 → Int32 → Int32 → mI → mA → mL → mA → mA → Option (Int32 × mI × mA × mL × mA × mA)
  | 0, _, _, _, _, _, _, _, _, _ => none
  | n + 1, l1, l2, l3, l4, iv, ar, la, pA, pB => if l2 ≤ l4 then obc (mX2_typeIn l1 l2 iv ar la pA pB) (fun r53 iv53 ar53 la53 pA53 pB53 => obc (mX2_isOrNothing r53 6 iv53 ar53 la53 pA53 pB53) (fun r63 iv63 ar63 la63 pA63 pB63 => if r63 = 0 then some ((-15), iv63, ar63, la63, pA63, pB63) else obc (mX3_labelsOf r53 iv63 ar63 la63 pA63 pB63) (fun r75 iv75 ar75 la75 pA75 pB75 => if (r75 &&& (l3 ^^^ (-1))) = 0 then if l2 = 0 then obc (mX3_make 1 iv75 ar75 la75 pA75 pB75) (fun r97 iv97 ar97 la97 pA97 pB97 => some (r97, iv97, ar97, la97, pA97, pB97)) else obc (mX2_typeIn l1 0 iv75 ar75 la75 pA75 pB75) (fun r106 iv106 ar106 la106 pA106 pB106 => some (r106, iv106, ar106, la106, pA106, pB106)) else some ((-15), iv75, ar75, la75, pA75, pB75)))) else obc (mX6_kidB l1 l4 iv ar la pA pB) (fun r35 iv35 ar35 la35 pA35 pB35 => obc (mX6_labelOfB r35 iv35 ar35 la35 pA35 pB35) (fun r38 iv38 ar38 la38 pA38 pB38 => mX2_typeOfSort_L16 n l1 l2 (l3 ||| (1 <<< (r38 &&& 31))) (l4 + 1) iv38 ar38 la38 pA38 pB38))
set_option maxRecDepth 100000 in
set_option maxHeartbeats 4000000 in
theorem wX2_typeOfSort_L16 (C : mCx p s m args meth c RX2 cX2_typeOfSort 5 (some .int) D cI cJ A) (n : Nat) : ∀ (l1 : Int32) (l2 : Int32) (l3 : Int32) (l4 : Int32) (iv : mI) (ar : mA) (la : mL) (pA : mA) (pB : mA) (rz : Int32) (ivz : mI) (arz : mA) (laz : mL) (pAz : mA) (pBz : mA), mX2_typeOfSort_L16 n l1 l2 l3 l4 iv ar la pA pB = some (rz, ivz, arz, laz, pAz, pBz) → ∀ (H : Heap) (locs : List Loc) (ls : Array Slot), lv_has ls 5 [(0, .ref (oc 2)), (1, .int l1), (2, .int l2), (3, .int l3), (4, .int l4)] → inW D A s (wC cI cJ oc ac pa pb aa ab xp xs tp pb mp iv ar la pA pB) H locs → W p l e (rmO 2 46) s m args below meth c H locs 0 0 (MQ below (ctQ D cI cJ (wC cI cJ oc ac pa pb aa ab xp xs tp pb mp ivz arz laz pAz pBz) A rz) args s 0 0 A) (F0 m 16 ls []) := by
  induction n with
  | zero =>
    intro l1 l2 l3 l4 iv ar la pA pB rz ivz arz laz pAz pBz hm H locs ls hl hw
    have hm : (none : Option (Int32 × mI × mA × mL × mA × mA)) = some _ := hm
    cases hm
  | succ n ih =>
    intro l1 l2 l3 l4 iv ar la pA pB rz ivz arz laz pAz pBz hm H locs ls hl hw
    have hx := C.1.1
    have hb := C.1.2.1
    unfold mX2_typeOfSort_L16 at hm
    refine lv_iload hx hb dX2_typeOfSort_16 (lv_at hl 4 rfl) ?_
    refine lv_iload_n hx hb dX2_typeOfSort_18 rfl (lv_at hl 2 rfl) ?_
    refine lv_icmp_ge (tgt := 50) hx hb dX2_typeOfSort_19 (by decide) (fun hc => ?_) (fun hc => ?_)
    · have hm := it_t hc hm
      refine lv_aload_n hx hb dX2_typeOfSort_50 rfl (lv_at hl 0 rfl) ?_
      refine lv_iload_n hx hb dX2_typeOfSort_51 rfl (lv_at hl 1 rfl) ?_
      refine lv_iload_n hx hb dX2_typeOfSort_52 rfl (lv_at hl 2 rfl) ?_
      obtain ⟨r53, iv53, ar53, la53, pA53, pB53, hc53, hm⟩ := obc_some hm
      refine g_calli (As := [.int l1, .int l2]) (rest := []) C hw (kX2_typeIn hc53) mtX2_typeIn lkX2_84 oC2 hl.1 rfl rfl (Nat.le_of_ble_eq_true rfl) ⟨Nat.le_of_ble_eq_true rfl, Nat.le_of_ble_eq_true rfl⟩ dX2_typeOfSort_53 ⟨Nat.zero_le _, Nat.zero_le _⟩ (fun H locs hw => ?_)
      refine lv_istore (lv' := [(4, .int r53), (0, .ref (oc 2)), (1, .int l1), (2, .int l2), (3, .int l3)]) hx hb dX2_typeOfSort_56 hl (by decide) rfl (fun ls hl => ?_)
      refine lv_aload_n hx hb dX2_typeOfSort_58 rfl (lv_at hl 1 rfl) ?_
      refine lv_iload hx hb dX2_typeOfSort_59 (lv_at hl 0 rfl) ?_
      refine lv_bipush (v := 6) hx hb dX2_typeOfSort_61 cb_6 ?_
      obtain ⟨r63, iv63, ar63, la63, pA63, pB63, hc63, hm⟩ := obc_some hm
      refine g_calli (As := [.int r53, .int 6]) (rest := []) C hw (kX2_isOrNothing hc63) mtX2_isOrNothing lkX2_122 oC2 hl.1 rfl rfl (Nat.le_of_ble_eq_true rfl) ⟨Nat.le_of_ble_eq_true rfl, Nat.le_of_ble_eq_true rfl⟩ dX2_typeOfSort_63 ⟨Nat.zero_le _, Nat.zero_le _⟩ (fun H locs hw => ?_)
      refine lv_if_eq (tgt := 85) hx hb dX2_typeOfSort_66 (by decide) (fun hc => ?_) (fun hc => ?_)
      · have hm := it_t hc hm
        refine lv_bipush (v := (-15)) hx hb dX2_typeOfSort_85 cb_m15 ?_
        cases hm
        exact g_iret C hw dX2_typeOfSort_87
      · have hm := it_f hc hm
        refine lv_aload_n hx hb dX2_typeOfSort_69 rfl (lv_at hl 1 rfl) ?_
        refine g_get C hw gC2_0 dX2_typeOfSort_70 ?_
        refine lv_iload hx hb dX2_typeOfSort_73 (lv_at hl 0 rfl) ?_
        obtain ⟨r75, iv75, ar75, la75, pA75, pB75, hc75, hm⟩ := obc_some hm
        refine g_calli (As := [.int r53]) (rest := []) C hw (kX3_labelsOf hc75) mtX3_labelsOf lkX2_150 oC3 hl.1 rfl rfl (Nat.le_of_ble_eq_true rfl) ⟨Nat.le_of_ble_eq_true rfl, Nat.le_of_ble_eq_true rfl⟩ dX2_typeOfSort_75 ⟨Nat.zero_le _, Nat.zero_le _⟩ (fun H locs hw => ?_)
        refine lv_iload_n hx hb dX2_typeOfSort_78 rfl (lv_at hl 4 rfl) ?_
        refine lv_iconst (v := (-1)) hx hb dX2_typeOfSort_79 ci_m1 ?_
        refine lv_ixor hx hb dX2_typeOfSort_80 ?_
        refine lv_iand hx hb dX2_typeOfSort_81 ?_
        refine lv_if_eq (tgt := 88) hx hb dX2_typeOfSort_82 (by decide) (fun hc => ?_) (fun hc => ?_)
        · have hm := it_t hc hm
          refine lv_iload_n hx hb dX2_typeOfSort_88 rfl (lv_at hl 3 rfl) ?_
          refine lv_if_ne (tgt := 103) hx hb dX2_typeOfSort_89 (by decide) (fun hc => ?_) (fun hc => ?_)
          · have hm := it_f hc hm
            refine lv_aload_n hx hb dX2_typeOfSort_103 rfl (lv_at hl 1 rfl) ?_
            refine lv_iload_n hx hb dX2_typeOfSort_104 rfl (lv_at hl 2 rfl) ?_
            refine lv_iconst (v := 0) hx hb dX2_typeOfSort_105 ci_0 ?_
            obtain ⟨r106, iv106, ar106, la106, pA106, pB106, hc106, hm⟩ := obc_some hm
            refine g_calli (As := [.int l1, .int 0]) (rest := []) C hw (kX2_typeIn hc106) mtX2_typeIn lkX2_84 oC2 hl.1 rfl rfl (Nat.le_of_ble_eq_true rfl) ⟨Nat.le_of_ble_eq_true rfl, Nat.le_of_ble_eq_true rfl⟩ dX2_typeOfSort_106 ⟨Nat.zero_le _, Nat.zero_le _⟩ (fun H locs hw => ?_)
            cases hm
            exact g_iret C hw dX2_typeOfSort_109
          · have hm := it_t hc hm
            refine lv_aload_n hx hb dX2_typeOfSort_92 rfl (lv_at hl 1 rfl) ?_
            refine g_get C hw gC2_0 dX2_typeOfSort_93 ?_
            refine lv_iconst (v := 1) hx hb dX2_typeOfSort_96 ci_1 ?_
            obtain ⟨r97, iv97, ar97, la97, pA97, pB97, hc97, hm⟩ := obc_some hm
            refine g_calli (As := [.int 1]) (rest := []) C hw (kX3_make hc97) mtX3_make lkX2_95 oC3 hl.1 rfl rfl (Nat.le_of_ble_eq_true rfl) ⟨Nat.le_of_ble_eq_true rfl, Nat.le_of_ble_eq_true rfl⟩ dX2_typeOfSort_97 ⟨Nat.zero_le _, Nat.zero_le _⟩ (fun H locs hw => ?_)
            refine lv_goto (tgt := 109) hx hb dX2_typeOfSort_100 (by decide) ?_
            cases hm
            exact g_iret C hw dX2_typeOfSort_109
        · have hm := it_f hc hm
          refine lv_bipush (v := (-15)) hx hb dX2_typeOfSort_85 cb_m15 ?_
          cases hm
          exact g_iret C hw dX2_typeOfSort_87
    · have hm := it_f hc hm
      refine lv_iload_n hx hb dX2_typeOfSort_22 rfl (lv_at hl 3 rfl) ?_
      refine lv_iconst (v := 1) hx hb dX2_typeOfSort_23 ci_1 ?_
      refine lv_aload_n hx hb dX2_typeOfSort_24 rfl (lv_at hl 0 rfl) ?_
      refine g_get C hw gC2_3 dX2_typeOfSort_25 ?_
      refine lv_aload_n hx hb dX2_typeOfSort_28 rfl (lv_at hl 0 rfl) ?_
      refine g_get C hw gC2_3 dX2_typeOfSort_29 ?_
      refine lv_iload_n hx hb dX2_typeOfSort_32 rfl (lv_at hl 1 rfl) ?_
      refine lv_iload hx hb dX2_typeOfSort_33 (lv_at hl 4 rfl) ?_
      obtain ⟨r35, iv35, ar35, la35, pA35, pB35, hc35, hm⟩ := obc_some hm
      refine g_calli (As := [.int l1, .int l4]) (rest := [.ref pb, .int 1, .int l3]) C hw (kX6_kidB hc35) mtX6_kid lkX2_98 oC6B hl.1 rfl rfl (Nat.le_of_ble_eq_true rfl) ⟨Nat.le_of_ble_eq_true rfl, Nat.le_of_ble_eq_true rfl⟩ dX2_typeOfSort_35 ⟨Nat.zero_le _, Nat.zero_le _⟩ (fun H locs hw => ?_)
      obtain ⟨r38, iv38, ar38, la38, pA38, pB38, hc38, hm⟩ := obc_some hm
      refine g_calli (As := [.int r35]) (rest := [.int 1, .int l3]) C hw (kX6_labelOfB hc38) mtX6_labelOf lkX2_75 oC6B hl.1 rfl rfl (Nat.le_of_ble_eq_true rfl) ⟨Nat.le_of_ble_eq_true rfl, Nat.le_of_ble_eq_true rfl⟩ dX2_typeOfSort_38 ⟨Nat.zero_le _, Nat.zero_le _⟩ (fun H locs hw => ?_)
      refine lv_ishl hx hb dX2_typeOfSort_41 ?_
      refine lv_ior hx hb dX2_typeOfSort_42 ?_
      refine lv_istore_n (lv' := [(3, .int (l3 ||| (1 <<< (r38 &&& 31)))), (0, .ref (oc 2)), (1, .int l1), (2, .int l2), (4, .int l4)]) hx hb dX2_typeOfSort_43 rfl hl (by decide) rfl (fun ls hl => ?_)
      refine lv_iinc (v := (l4 + 1)) (lv' := [(4, .int (l4 + 1)), (3, .int (l3 ||| (1 <<< (r38 &&& 31)))), (0, .ref (oc 2)), (1, .int l1), (2, .int l2)]) hx hb dX2_typeOfSort_44 hl (k := 4) rfl (ii_ ci_1) (by decide) rfl (fun ls hl => ?_)
      refine lv_goto (tgt := 16) hx hb dX2_typeOfSort_47 (by decide) ?_
      exact ih _ _ _ _ _ _ _ _ _ _ _ _ _ _ _ hm _ _ _ (lv_sub hl [2, 3, 4, 1, 0] rfl) hw
def mX2_typeOfSort (a1 : Int32) (iv : mI) (ar : mA) (la : mL) (pA : mA) (pB : mA) : Option (Int32 × mI × mA × mL × mA × mA) := obc (mX6_kidCountB a1 iv ar la pA pB) (fun r5 iv5 ar5 la5 pA5 pB5 => mX2_typeOfSort_L16 bigF a1 (r5 - 1) 0 0 iv5 ar5 la5 pA5 pB5)
set_option maxRecDepth 100000 in
set_option maxHeartbeats 4000000 in
theorem kX2_typeOfSort {a1 : Int32} {iv ivz : mI} {ar arz : mA} {la laz : mL} {pA pAz : mA} {pB pBz : mA} {rz : Int32} (hm : mX2_typeOfSort a1 iv ar la pA pB = some (rz, ivz, arz, laz, pAz, pBz)) : Ct l D cI cJ yX2_typeOfSort cX2_typeOfSort 5 (some .int) 2 46 [.ref (oc 2), .int a1] (wC cI cJ oc ac pa pb aa ab xp xs tp pb mp iv ar la pA pB) (wC cI cJ oc ac pa pb aa ab xp xs tp pb mp ivz arz laz pAz pBz) rz := by
  intro sz
  refine ct_of (by decide) (Nat.le_of_ble_eq_true rfl) ?_
  intro p e s m args below meth c C hw ls hl
  have hl : lv_has ls 5 [(0, .ref (oc 2)), (1, .int a1)] := hl
  have hx := C.1.1
  have hb := C.1.2.1
  unfold mX2_typeOfSort at hm
  refine lv_aload_n hx hb dX2_typeOfSort_0 rfl (lv_at hl 0 rfl) ?_
  refine g_get C hw gC2_3 dX2_typeOfSort_1 ?_
  refine lv_iload_n hx hb dX2_typeOfSort_4 rfl (lv_at hl 1 rfl) ?_
  obtain ⟨r5, iv5, ar5, la5, pA5, pB5, hc5, hm⟩ := obc_some hm
  refine g_calli (As := [.int a1]) (rest := []) C hw (kX6_kidCountB hc5) mtX6_kidCount lkX2_81 oC6B hl.1 rfl rfl (Nat.le_of_ble_eq_true rfl) ⟨Nat.le_of_ble_eq_true rfl, Nat.le_of_ble_eq_true rfl⟩ dX2_typeOfSort_5 ⟨Nat.zero_le _, Nat.zero_le _⟩ (fun H locs hw => ?_)
  refine lv_iconst (v := 1) hx hb dX2_typeOfSort_8 ci_1 ?_
  refine lv_isub hx hb dX2_typeOfSort_9 ?_
  refine lv_istore_n (lv' := [(2, .int (r5 - 1)), (0, .ref (oc 2)), (1, .int a1)]) hx hb dX2_typeOfSort_10 rfl hl (by decide) rfl (fun ls hl => ?_)
  refine lv_iconst (v := 0) hx hb dX2_typeOfSort_11 ci_0 ?_
  refine lv_istore_n (lv' := [(3, .int 0), (2, .int (r5 - 1)), (0, .ref (oc 2)), (1, .int a1)]) hx hb dX2_typeOfSort_12 rfl hl (by decide) rfl (fun ls hl => ?_)
  refine lv_iconst (v := 0) hx hb dX2_typeOfSort_13 ci_0 ?_
  refine lv_istore (lv' := [(4, .int 0), (3, .int 0), (2, .int (r5 - 1)), (0, .ref (oc 2)), (1, .int a1)]) hx hb dX2_typeOfSort_14 hl (by decide) rfl (fun ls hl => ?_)
  exact wX2_typeOfSort_L16 C bigF _ _ _ _ _ _ _ _ _ _ _ _ _ _ _ hm _ _ _ (lv_sub hl [3, 4, 2, 1, 0] rfl) hw
def mX2_typeOfItself (a1 : Int32) (a2 : Int32) (iv : mI) (ar : mA) (la : mL) (pA : mA) (pB : mA) : Option (Int32 × mI × mA × mL × mA × mA) := obc (mX5_search a2 a1 iv ar la pA pB) (fun r6 iv6 ar6 la6 pA6 pB6 => if r6 = (-1) then some (a1, iv6, ar6, la6, pA6, pB6) else some ((-15), iv6, ar6, la6, pA6, pB6))
set_option maxRecDepth 100000 in
set_option maxHeartbeats 4000000 in
theorem kX2_typeOfItself {a1 a2 : Int32} {iv ivz : mI} {ar arz : mA} {la laz : mL} {pA pAz : mA} {pB pBz : mA} {rz : Int32} (hm : mX2_typeOfItself a1 a2 iv ar la pA pB = some (rz, ivz, arz, laz, pAz, pBz)) : Ct l D cI cJ yX2_typeOfItself cX2_typeOfItself 3 (some .int) 3 79 [.ref (oc 2), .int a1, .int a2] (wC cI cJ oc ac pa pb aa ab xp xs tp pb mp iv ar la pA pB) (wC cI cJ oc ac pa pb aa ab xp xs tp pb mp ivz arz laz pAz pBz) rz := by
  intro sz
  refine ct_of (by decide) (Nat.le_of_ble_eq_true rfl) ?_
  intro p e s m args below meth c C hw ls hl
  have hl : lv_has ls 3 [(0, .ref (oc 2)), (1, .int a1), (2, .int a2)] := hl
  have hx := C.1.1
  have hb := C.1.2.1
  unfold mX2_typeOfItself at hm
  refine lv_aload_n hx hb dX2_typeOfItself_0 rfl (lv_at hl 0 rfl) ?_
  refine g_get C hw gC2_1 dX2_typeOfItself_1 ?_
  refine lv_iload_n hx hb dX2_typeOfItself_4 rfl (lv_at hl 2 rfl) ?_
  refine lv_iload_n hx hb dX2_typeOfItself_5 rfl (lv_at hl 1 rfl) ?_
  obtain ⟨r6, iv6, ar6, la6, pA6, pB6, hc6, hm⟩ := obc_some hm
  refine g_calli (As := [.int a2, .int a1]) (rest := []) C hw (kX5_search hc6) mtX5_search lkX2_145 oC5 hl.1 rfl rfl (Nat.le_of_ble_eq_true rfl) ⟨Nat.le_of_ble_eq_true rfl, Nat.le_of_ble_eq_true rfl⟩ dX2_typeOfItself_6 ⟨Nat.zero_le _, Nat.zero_le _⟩ (fun H locs hw => ?_)
  refine lv_iconst (v := (-1)) hx hb dX2_typeOfItself_9 ci_m1 ?_
  refine lv_icmp_ne (tgt := 17) hx hb dX2_typeOfItself_10 (by decide) (fun hc => ?_) (fun hc => ?_)
  · have hm := it_f hc hm
    refine lv_bipush (v := (-15)) hx hb dX2_typeOfItself_17 cb_m15 ?_
    cases hm
    exact g_iret C hw dX2_typeOfItself_19
  · have hm := it_t hc hm
    refine lv_iload_n hx hb dX2_typeOfItself_13 rfl (lv_at hl 1 rfl) ?_
    refine lv_goto (tgt := 19) hx hb dX2_typeOfItself_14 (by decide) ?_
    cases hm
    exact g_iret C hw dX2_typeOfItself_19
def mX2_typeOf (a1 : Int32) (iv : mI) (ar : mA) (la : mL) (pA : mA) (pB : mA) : Option (Int32 × mI × mA × mL × mA × mA) := obc (mX6_wordB a1 iv ar la pA pB) (fun r5 iv5 ar5 la5 pA5 pB5 => if r5 = 20 then obc (mX6_homeB a1 iv5 ar5 la5 pA5 pB5) (fun r86 iv86 ar86 la86 pA86 pB86 => obc (mX2_typeOfVariable r86 iv86 ar86 la86 pA86 pB86) (fun r89 iv89 ar89 la89 pA89 pB89 => some (r89, iv89, ar89, la89, pA89, pB89))) else if r5 = 21 then obc (mX6_wordB (a1 + 1) iv5 ar5 la5 pA5 pB5) (fun r101 iv101 ar101 la101 pA101 pB101 => obc (mX2_typeIn a1 0 iv101 ar101 la101 pA101 pB101) (fun r107 iv107 ar107 la107 pA107 pB107 => obc (mX2_typeOfLambda r101 r107 iv107 ar107 la107 pA107 pB107) (fun r110 iv110 ar110 la110 pA110 pB110 => some (r110, iv110, ar110, la110, pA110, pB110)))) else if r5 = 22 then obc (mX2_typeIn a1 0 iv5 ar5 la5 pA5 pB5) (fun r118 iv118 ar118 la118 pA118 pB118 => obc (mX2_typeIn a1 1 iv118 ar118 la118 pA118 pB118) (fun r124 iv124 ar124 la124 pA124 pB124 => obc (mX2_typeOfApply r118 r124 iv124 ar124 la124 pA124 pB124) (fun r127 iv127 ar127 la127 pA127 pB127 => some (r127, iv127, ar127, la127, pA127, pB127)))) else if r5 = 23 then obc (mX3_make 2 iv5 ar5 la5 pA5 pB5) (fun r136 iv136 ar136 la136 pA136 pB136 => some (r136, iv136, ar136, la136, pA136, pB136)) else if r5 = 24 then obc (mX2_bothNumbers a1 iv5 ar5 la5 pA5 pB5) (fun r142 iv142 ar142 la142 pA142 pB142 => if r142 = 0 then some ((-15), iv142, ar142, la142, pA142, pB142) else obc (mX3_make 2 iv142 ar142 la142 pA142 pB142) (fun r153 iv153 ar153 la153 pA153 pB153 => some (r153, iv153, ar153, la153, pA153, pB153))) else if r5 = 25 then obc (mX2_bothNumbers a1 iv5 ar5 la5 pA5 pB5) (fun r164 iv164 ar164 la164 pA164 pB164 => if r164 = 0 then some ((-15), iv164, ar164, la164, pA164, pB164) else obc (mX3_make 3 iv164 ar164 la164 pA164 pB164) (fun r175 iv175 ar175 la175 pA175 pB175 => some (r175, iv175, ar175, la175, pA175, pB175))) else if r5 = 26 then obc (mX3_make 3 iv5 ar5 la5 pA5 pB5) (fun r189 iv189 ar189 la189 pA189 pB189 => some (r189, iv189, ar189, la189, pA189, pB189)) else if r5 = 27 then obc (mX3_make 3 iv5 ar5 la5 pA5 pB5) (fun r189 iv189 ar189 la189 pA189 pB189 => some (r189, iv189, ar189, la189, pA189, pB189)) else if r5 = 28 then obc (mX2_typeIn a1 0 iv5 ar5 la5 pA5 pB5) (fun r197 iv197 ar197 la197 pA197 pB197 => obc (mX2_isOrNothing r197 3 iv197 ar197 la197 pA197 pB197) (fun r201 iv201 ar201 la201 pA201 pB201 => if r201 = 0 then some ((-15), iv201, ar201, la201, pA201, pB201) else obc (mX2_typeIn a1 1 iv201 ar201 la201 pA201 pB201) (fun r210 iv210 ar210 la210 pA210 pB210 => some (r210, iv210, ar210, la210, pA210, pB210)))) else if r5 = 29 then obc (mX2_typeOfGather a1 iv5 ar5 la5 pA5 pB5) (fun r221 iv221 ar221 la221 pA221 pB221 => some (r221, iv221, ar221, la221, pA221, pB221)) else if r5 = 30 then obc (mX2_typeIn a1 0 iv5 ar5 la5 pA5 pB5) (fun r229 iv229 ar229 la229 pA229 pB229 => obc (mX6_wordB (a1 + 1) iv229 ar229 la229 pA229 pB229) (fun r239 iv239 ar239 la239 pA239 pB239 => obc (mX2_typeOfPick r229 r239 iv239 ar239 la239 pA239 pB239) (fun r242 iv242 ar242 la242 pA242 pB242 => some (r242, iv242, ar242, la242, pA242, pB242)))) else if r5 = 31 then obc (mX6_wordB (a1 + 1) iv5 ar5 la5 pA5 pB5) (fun r254 iv254 ar254 la254 pA254 pB254 => obc (mX6_wordB (a1 + 2) iv254 ar254 la254 pA254 pB254) (fun r264 iv264 ar264 la264 pA264 pB264 => obc (mX2_typeIn a1 0 iv264 ar264 la264 pA264 pB264) (fun r270 iv270 ar270 la270 pA270 pB270 => obc (mX2_typeOfTag r254 r264 r270 iv270 ar270 la270 pA270 pB270) (fun r273 iv273 ar273 la273 pA273 pB273 => some (r273, iv273, ar273, la273, pA273, pB273))))) else if r5 = 32 then obc (mX2_typeOfSort a1 iv5 ar5 la5 pA5 pB5) (fun r279 iv279 ar279 la279 pA279 pB279 => some (r279, iv279, ar279, la279, pA279, pB279)) else if r5 = 33 then obc (mX6_wordB (a1 + 1) iv5 ar5 la5 pA5 pB5) (fun r291 iv291 ar291 la291 pA291 pB291 => obc (mX2_typeIn a1 0 iv291 ar291 la291 pA291 pB291) (fun r297 iv297 ar297 la297 pA297 pB297 => obc (mX2_typeOfItself r291 r297 iv297 ar297 la297 pA297 pB297) (fun r300 iv300 ar300 la300 pA300 pB300 => some (r300, iv300, ar300, la300, pA300, pB300)))) else some ((-15), iv5, ar5, la5, pA5, pB5))
set_option maxRecDepth 100000 in
set_option maxHeartbeats 4000000 in
theorem kX2_typeOf {a1 : Int32} {iv ivz : mI} {ar arz : mA} {la laz : mL} {pA pAz : mA} {pB pBz : mA} {rz : Int32} (hm : mX2_typeOf a1 iv ar la pA pB = some (rz, ivz, arz, laz, pAz, pBz)) : Ct l D cI cJ yX2_typeOf cX2_typeOf 2 (some .int) 4 102 [.ref (oc 2), .int a1] (wC cI cJ oc ac pa pb aa ab xp xs tp pb mp iv ar la pA pB) (wC cI cJ oc ac pa pb aa ab xp xs tp pb mp ivz arz laz pAz pBz) rz := by
  intro sz
  refine ct_of (by decide) (Nat.le_of_ble_eq_true rfl) ?_
  intro p e s m args below meth c C hw ls hl
  have hl : lv_has ls 2 [(0, .ref (oc 2)), (1, .int a1)] := hl
  have hx := C.1.1
  have hb := C.1.2.1
  unfold mX2_typeOf at hm
  refine lv_aload_n hx hb dX2_typeOf_0 rfl (lv_at hl 0 rfl) ?_
  refine g_get C hw gC2_3 dX2_typeOf_1 ?_
  refine lv_iload_n hx hb dX2_typeOf_4 rfl (lv_at hl 1 rfl) ?_
  obtain ⟨r5, iv5, ar5, la5, pA5, pB5, hc5, hm⟩ := obc_some hm
  refine g_calli (As := [.int a1]) (rest := []) C hw (kX6_wordB hc5) mtX6_word lkX2_72 oC6B hl.1 rfl rfl (Nat.le_of_ble_eq_true rfl) ⟨Nat.le_of_ble_eq_true rfl, Nat.le_of_ble_eq_true rfl⟩ dX2_typeOf_5 ⟨Nat.zero_le _, Nat.zero_le _⟩ (fun H locs hw => ?_)
  refine br_by (c := r5 = 20) (fun hc => ?_) (fun hc20 => ?_)
  · have hm := it_t hc hm
    refine lv_tableIn (off := 72) (tgt := 80) hx hb dX2_typeOf_8 (by rw [hc]; decide) (by rw [hc]; decide) (by rw [hc]; rfl) (by decide) ?_
    refine lv_aload_n hx hb dX2_typeOf_80 rfl (lv_at hl 0 rfl) ?_
    refine lv_aload_n hx hb dX2_typeOf_81 rfl (lv_at hl 0 rfl) ?_
    refine g_get C hw gC2_3 dX2_typeOf_82 ?_
    refine lv_iload_n hx hb dX2_typeOf_85 rfl (lv_at hl 1 rfl) ?_
    obtain ⟨r86, iv86, ar86, la86, pA86, pB86, hc86, hm⟩ := obc_some hm
    refine g_calli (As := [.int a1]) (rest := [.ref (oc 2)]) C hw (kX6_homeB hc86) mtX6_home lkX2_106 oC6B hl.1 rfl rfl (Nat.le_of_ble_eq_true rfl) ⟨Nat.le_of_ble_eq_true rfl, Nat.le_of_ble_eq_true rfl⟩ dX2_typeOf_86 ⟨Nat.zero_le _, Nat.zero_le _⟩ (fun H locs hw => ?_)
    obtain ⟨r89, iv89, ar89, la89, pA89, pB89, hc89, hm⟩ := obc_some hm
    refine g_calli (As := [.int r86]) (rest := []) C hw (kX2_typeOfVariable hc89) mtX2_typeOfVariable lkX2_109 oC2 hl.1 rfl rfl (Nat.le_of_ble_eq_true rfl) ⟨Nat.le_of_ble_eq_true rfl, Nat.le_of_ble_eq_true rfl⟩ dX2_typeOf_89 ⟨Nat.zero_le _, Nat.zero_le _⟩ (fun H locs hw => ?_)
    cases hm
    exact g_iret C hw dX2_typeOf_92
  · have hm := it_f hc20 hm
    refine br_by (c := r5 = 21) (fun hc => ?_) (fun hc21 => ?_)
    · have hm := it_t hc hm
      refine lv_tableIn (off := 85) (tgt := 93) hx hb dX2_typeOf_8 (by rw [hc]; decide) (by rw [hc]; decide) (by rw [hc]; rfl) (by decide) ?_
      refine lv_aload_n hx hb dX2_typeOf_93 rfl (lv_at hl 0 rfl) ?_
      refine lv_aload_n hx hb dX2_typeOf_94 rfl (lv_at hl 0 rfl) ?_
      refine g_get C hw gC2_3 dX2_typeOf_95 ?_
      refine lv_iload_n hx hb dX2_typeOf_98 rfl (lv_at hl 1 rfl) ?_
      refine lv_iconst (v := 1) hx hb dX2_typeOf_99 ci_1 ?_
      refine lv_iadd hx hb dX2_typeOf_100 ?_
      obtain ⟨r101, iv101, ar101, la101, pA101, pB101, hc101, hm⟩ := obc_some hm
      refine g_calli (As := [.int (a1 + 1)]) (rest := [.ref (oc 2)]) C hw (kX6_wordB hc101) mtX6_word lkX2_72 oC6B hl.1 rfl rfl (Nat.le_of_ble_eq_true rfl) ⟨Nat.le_of_ble_eq_true rfl, Nat.le_of_ble_eq_true rfl⟩ dX2_typeOf_101 ⟨Nat.zero_le _, Nat.zero_le _⟩ (fun H locs hw => ?_)
      refine lv_aload_n hx hb dX2_typeOf_104 rfl (lv_at hl 0 rfl) ?_
      refine lv_iload_n hx hb dX2_typeOf_105 rfl (lv_at hl 1 rfl) ?_
      refine lv_iconst (v := 0) hx hb dX2_typeOf_106 ci_0 ?_
      obtain ⟨r107, iv107, ar107, la107, pA107, pB107, hc107, hm⟩ := obc_some hm
      refine g_calli (As := [.int a1, .int 0]) (rest := [.int r101, .ref (oc 2)]) C hw (kX2_typeIn hc107) mtX2_typeIn lkX2_84 oC2 hl.1 rfl rfl (Nat.le_of_ble_eq_true rfl) ⟨Nat.le_of_ble_eq_true rfl, Nat.le_of_ble_eq_true rfl⟩ dX2_typeOf_107 ⟨Nat.zero_le _, Nat.zero_le _⟩ (fun H locs hw => ?_)
      obtain ⟨r110, iv110, ar110, la110, pA110, pB110, hc110, hm⟩ := obc_some hm
      refine g_calli (As := [.int r101, .int r107]) (rest := []) C hw (kX2_typeOfLambda hc110) mtX2_typeOfLambda lkX2_112 oC2 hl.1 rfl rfl (Nat.le_of_ble_eq_true rfl) ⟨Nat.le_of_ble_eq_true rfl, Nat.le_of_ble_eq_true rfl⟩ dX2_typeOf_110 ⟨Nat.zero_le _, Nat.zero_le _⟩ (fun H locs hw => ?_)
      cases hm
      exact g_iret C hw dX2_typeOf_113
    · have hm := it_f hc21 hm
      refine br_by (c := r5 = 22) (fun hc => ?_) (fun hc22 => ?_)
      · have hm := it_t hc hm
        refine lv_tableIn (off := 106) (tgt := 114) hx hb dX2_typeOf_8 (by rw [hc]; decide) (by rw [hc]; decide) (by rw [hc]; rfl) (by decide) ?_
        refine lv_aload_n hx hb dX2_typeOf_114 rfl (lv_at hl 0 rfl) ?_
        refine lv_aload_n hx hb dX2_typeOf_115 rfl (lv_at hl 0 rfl) ?_
        refine lv_iload_n hx hb dX2_typeOf_116 rfl (lv_at hl 1 rfl) ?_
        refine lv_iconst (v := 0) hx hb dX2_typeOf_117 ci_0 ?_
        obtain ⟨r118, iv118, ar118, la118, pA118, pB118, hc118, hm⟩ := obc_some hm
        refine g_calli (As := [.int a1, .int 0]) (rest := [.ref (oc 2)]) C hw (kX2_typeIn hc118) mtX2_typeIn lkX2_84 oC2 hl.1 rfl rfl (Nat.le_of_ble_eq_true rfl) ⟨Nat.le_of_ble_eq_true rfl, Nat.le_of_ble_eq_true rfl⟩ dX2_typeOf_118 ⟨Nat.zero_le _, Nat.zero_le _⟩ (fun H locs hw => ?_)
        refine lv_aload_n hx hb dX2_typeOf_121 rfl (lv_at hl 0 rfl) ?_
        refine lv_iload_n hx hb dX2_typeOf_122 rfl (lv_at hl 1 rfl) ?_
        refine lv_iconst (v := 1) hx hb dX2_typeOf_123 ci_1 ?_
        obtain ⟨r124, iv124, ar124, la124, pA124, pB124, hc124, hm⟩ := obc_some hm
        refine g_calli (As := [.int a1, .int 1]) (rest := [.int r118, .ref (oc 2)]) C hw (kX2_typeIn hc124) mtX2_typeIn lkX2_84 oC2 hl.1 rfl rfl (Nat.le_of_ble_eq_true rfl) ⟨Nat.le_of_ble_eq_true rfl, Nat.le_of_ble_eq_true rfl⟩ dX2_typeOf_124 ⟨Nat.zero_le _, Nat.zero_le _⟩ (fun H locs hw => ?_)
        obtain ⟨r127, iv127, ar127, la127, pA127, pB127, hc127, hm⟩ := obc_some hm
        refine g_calli (As := [.int r118, .int r124]) (rest := []) C hw (kX2_typeOfApply hc127) mtX2_typeOfApply lkX2_115 oC2 hl.1 rfl rfl (Nat.le_of_ble_eq_true rfl) ⟨Nat.le_of_ble_eq_true rfl, Nat.le_of_ble_eq_true rfl⟩ dX2_typeOf_127 ⟨Nat.zero_le _, Nat.zero_le _⟩ (fun H locs hw => ?_)
        cases hm
        exact g_iret C hw dX2_typeOf_130
      · have hm := it_f hc22 hm
        refine br_by (c := r5 = 23) (fun hc => ?_) (fun hc23 => ?_)
        · have hm := it_t hc hm
          refine lv_tableIn (off := 123) (tgt := 131) hx hb dX2_typeOf_8 (by rw [hc]; decide) (by rw [hc]; decide) (by rw [hc]; rfl) (by decide) ?_
          refine lv_aload_n hx hb dX2_typeOf_131 rfl (lv_at hl 0 rfl) ?_
          refine g_get C hw gC2_0 dX2_typeOf_132 ?_
          refine lv_iconst (v := 2) hx hb dX2_typeOf_135 ci_2 ?_
          obtain ⟨r136, iv136, ar136, la136, pA136, pB136, hc136, hm⟩ := obc_some hm
          refine g_calli (As := [.int 2]) (rest := []) C hw (kX3_make hc136) mtX3_make lkX2_95 oC3 hl.1 rfl rfl (Nat.le_of_ble_eq_true rfl) ⟨Nat.le_of_ble_eq_true rfl, Nat.le_of_ble_eq_true rfl⟩ dX2_typeOf_136 ⟨Nat.zero_le _, Nat.zero_le _⟩ (fun H locs hw => ?_)
          cases hm
          exact g_iret C hw dX2_typeOf_139
        · have hm := it_f hc23 hm
          refine br_by (c := r5 = 24) (fun hc => ?_) (fun hc24 => ?_)
          · have hm := it_t hc hm
            refine lv_tableIn (off := 132) (tgt := 140) hx hb dX2_typeOf_8 (by rw [hc]; decide) (by rw [hc]; decide) (by rw [hc]; rfl) (by decide) ?_
            refine lv_aload_n hx hb dX2_typeOf_140 rfl (lv_at hl 0 rfl) ?_
            refine lv_iload_n hx hb dX2_typeOf_141 rfl (lv_at hl 1 rfl) ?_
            obtain ⟨r142, iv142, ar142, la142, pA142, pB142, hc142, hm⟩ := obc_some hm
            refine g_calli (As := [.int a1]) (rest := []) C hw (kX2_bothNumbers hc142) mtX2_bothNumbers lkX2_118 oC2 hl.1 rfl rfl (Nat.le_of_ble_eq_true rfl) ⟨Nat.le_of_ble_eq_true rfl, Nat.le_of_ble_eq_true rfl⟩ dX2_typeOf_142 ⟨Nat.zero_le _, Nat.zero_le _⟩ (fun H locs hw => ?_)
            refine lv_if_eq (tgt := 159) hx hb dX2_typeOf_145 (by decide) (fun hc => ?_) (fun hc => ?_)
            · have hm := it_t hc hm
              refine lv_bipush (v := (-15)) hx hb dX2_typeOf_159 cb_m15 ?_
              cases hm
              exact g_iret C hw dX2_typeOf_161
            · have hm := it_f hc hm
              refine lv_aload_n hx hb dX2_typeOf_148 rfl (lv_at hl 0 rfl) ?_
              refine g_get C hw gC2_0 dX2_typeOf_149 ?_
              refine lv_iconst (v := 2) hx hb dX2_typeOf_152 ci_2 ?_
              obtain ⟨r153, iv153, ar153, la153, pA153, pB153, hc153, hm⟩ := obc_some hm
              refine g_calli (As := [.int 2]) (rest := []) C hw (kX3_make hc153) mtX3_make lkX2_95 oC3 hl.1 rfl rfl (Nat.le_of_ble_eq_true rfl) ⟨Nat.le_of_ble_eq_true rfl, Nat.le_of_ble_eq_true rfl⟩ dX2_typeOf_153 ⟨Nat.zero_le _, Nat.zero_le _⟩ (fun H locs hw => ?_)
              refine lv_goto (tgt := 161) hx hb dX2_typeOf_156 (by decide) ?_
              cases hm
              exact g_iret C hw dX2_typeOf_161
          · have hm := it_f hc24 hm
            refine br_by (c := r5 = 25) (fun hc => ?_) (fun hc25 => ?_)
            · have hm := it_t hc hm
              refine lv_tableIn (off := 154) (tgt := 162) hx hb dX2_typeOf_8 (by rw [hc]; decide) (by rw [hc]; decide) (by rw [hc]; rfl) (by decide) ?_
              refine lv_aload_n hx hb dX2_typeOf_162 rfl (lv_at hl 0 rfl) ?_
              refine lv_iload_n hx hb dX2_typeOf_163 rfl (lv_at hl 1 rfl) ?_
              obtain ⟨r164, iv164, ar164, la164, pA164, pB164, hc164, hm⟩ := obc_some hm
              refine g_calli (As := [.int a1]) (rest := []) C hw (kX2_bothNumbers hc164) mtX2_bothNumbers lkX2_118 oC2 hl.1 rfl rfl (Nat.le_of_ble_eq_true rfl) ⟨Nat.le_of_ble_eq_true rfl, Nat.le_of_ble_eq_true rfl⟩ dX2_typeOf_164 ⟨Nat.zero_le _, Nat.zero_le _⟩ (fun H locs hw => ?_)
              refine lv_if_eq (tgt := 181) hx hb dX2_typeOf_167 (by decide) (fun hc => ?_) (fun hc => ?_)
              · have hm := it_t hc hm
                refine lv_bipush (v := (-15)) hx hb dX2_typeOf_181 cb_m15 ?_
                cases hm
                exact g_iret C hw dX2_typeOf_183
              · have hm := it_f hc hm
                refine lv_aload_n hx hb dX2_typeOf_170 rfl (lv_at hl 0 rfl) ?_
                refine g_get C hw gC2_0 dX2_typeOf_171 ?_
                refine lv_iconst (v := 3) hx hb dX2_typeOf_174 ci_3 ?_
                obtain ⟨r175, iv175, ar175, la175, pA175, pB175, hc175, hm⟩ := obc_some hm
                refine g_calli (As := [.int 3]) (rest := []) C hw (kX3_make hc175) mtX3_make lkX2_95 oC3 hl.1 rfl rfl (Nat.le_of_ble_eq_true rfl) ⟨Nat.le_of_ble_eq_true rfl, Nat.le_of_ble_eq_true rfl⟩ dX2_typeOf_175 ⟨Nat.zero_le _, Nat.zero_le _⟩ (fun H locs hw => ?_)
                refine lv_goto (tgt := 183) hx hb dX2_typeOf_178 (by decide) ?_
                cases hm
                exact g_iret C hw dX2_typeOf_183
            · have hm := it_f hc25 hm
              refine br_by (c := r5 = 26) (fun hc => ?_) (fun hc26 => ?_)
              · have hm := it_t hc hm
                refine lv_tableIn (off := 176) (tgt := 184) hx hb dX2_typeOf_8 (by rw [hc]; decide) (by rw [hc]; decide) (by rw [hc]; rfl) (by decide) ?_
                refine lv_aload_n hx hb dX2_typeOf_184 rfl (lv_at hl 0 rfl) ?_
                refine g_get C hw gC2_0 dX2_typeOf_185 ?_
                refine lv_iconst (v := 3) hx hb dX2_typeOf_188 ci_3 ?_
                obtain ⟨r189, iv189, ar189, la189, pA189, pB189, hc189, hm⟩ := obc_some hm
                refine g_calli (As := [.int 3]) (rest := []) C hw (kX3_make hc189) mtX3_make lkX2_95 oC3 hl.1 rfl rfl (Nat.le_of_ble_eq_true rfl) ⟨Nat.le_of_ble_eq_true rfl, Nat.le_of_ble_eq_true rfl⟩ dX2_typeOf_189 ⟨Nat.zero_le _, Nat.zero_le _⟩ (fun H locs hw => ?_)
                cases hm
                exact g_iret C hw dX2_typeOf_192
              · have hm := it_f hc26 hm
                refine br_by (c := r5 = 27) (fun hc => ?_) (fun hc27 => ?_)
                · have hm := it_t hc hm
                  refine lv_tableIn (off := 176) (tgt := 184) hx hb dX2_typeOf_8 (by rw [hc]; decide) (by rw [hc]; decide) (by rw [hc]; rfl) (by decide) ?_
                  refine lv_aload_n hx hb dX2_typeOf_184 rfl (lv_at hl 0 rfl) ?_
                  refine g_get C hw gC2_0 dX2_typeOf_185 ?_
                  refine lv_iconst (v := 3) hx hb dX2_typeOf_188 ci_3 ?_
                  obtain ⟨r189, iv189, ar189, la189, pA189, pB189, hc189, hm⟩ := obc_some hm
                  refine g_calli (As := [.int 3]) (rest := []) C hw (kX3_make hc189) mtX3_make lkX2_95 oC3 hl.1 rfl rfl (Nat.le_of_ble_eq_true rfl) ⟨Nat.le_of_ble_eq_true rfl, Nat.le_of_ble_eq_true rfl⟩ dX2_typeOf_189 ⟨Nat.zero_le _, Nat.zero_le _⟩ (fun H locs hw => ?_)
                  cases hm
                  exact g_iret C hw dX2_typeOf_192
                · have hm := it_f hc27 hm
                  refine br_by (c := r5 = 28) (fun hc => ?_) (fun hc28 => ?_)
                  · have hm := it_t hc hm
                    refine lv_tableIn (off := 185) (tgt := 193) hx hb dX2_typeOf_8 (by rw [hc]; decide) (by rw [hc]; decide) (by rw [hc]; rfl) (by decide) ?_
                    refine lv_aload_n hx hb dX2_typeOf_193 rfl (lv_at hl 0 rfl) ?_
                    refine lv_aload_n hx hb dX2_typeOf_194 rfl (lv_at hl 0 rfl) ?_
                    refine lv_iload_n hx hb dX2_typeOf_195 rfl (lv_at hl 1 rfl) ?_
                    refine lv_iconst (v := 0) hx hb dX2_typeOf_196 ci_0 ?_
                    obtain ⟨r197, iv197, ar197, la197, pA197, pB197, hc197, hm⟩ := obc_some hm
                    refine g_calli (As := [.int a1, .int 0]) (rest := [.ref (oc 2)]) C hw (kX2_typeIn hc197) mtX2_typeIn lkX2_84 oC2 hl.1 rfl rfl (Nat.le_of_ble_eq_true rfl) ⟨Nat.le_of_ble_eq_true rfl, Nat.le_of_ble_eq_true rfl⟩ dX2_typeOf_197 ⟨Nat.zero_le _, Nat.zero_le _⟩ (fun H locs hw => ?_)
                    refine lv_iconst (v := 3) hx hb dX2_typeOf_200 ci_3 ?_
                    obtain ⟨r201, iv201, ar201, la201, pA201, pB201, hc201, hm⟩ := obc_some hm
                    refine g_calli (As := [.int r197, .int 3]) (rest := []) C hw (kX2_isOrNothing hc201) mtX2_isOrNothing lkX2_122 oC2 hl.1 rfl rfl (Nat.le_of_ble_eq_true rfl) ⟨Nat.le_of_ble_eq_true rfl, Nat.le_of_ble_eq_true rfl⟩ dX2_typeOf_201 ⟨Nat.zero_le _, Nat.zero_le _⟩ (fun H locs hw => ?_)
                    refine lv_if_eq (tgt := 216) hx hb dX2_typeOf_204 (by decide) (fun hc => ?_) (fun hc => ?_)
                    · have hm := it_t hc hm
                      refine lv_bipush (v := (-15)) hx hb dX2_typeOf_216 cb_m15 ?_
                      cases hm
                      exact g_iret C hw dX2_typeOf_218
                    · have hm := it_f hc hm
                      refine lv_aload_n hx hb dX2_typeOf_207 rfl (lv_at hl 0 rfl) ?_
                      refine lv_iload_n hx hb dX2_typeOf_208 rfl (lv_at hl 1 rfl) ?_
                      refine lv_iconst (v := 1) hx hb dX2_typeOf_209 ci_1 ?_
                      obtain ⟨r210, iv210, ar210, la210, pA210, pB210, hc210, hm⟩ := obc_some hm
                      refine g_calli (As := [.int a1, .int 1]) (rest := []) C hw (kX2_typeIn hc210) mtX2_typeIn lkX2_84 oC2 hl.1 rfl rfl (Nat.le_of_ble_eq_true rfl) ⟨Nat.le_of_ble_eq_true rfl, Nat.le_of_ble_eq_true rfl⟩ dX2_typeOf_210 ⟨Nat.zero_le _, Nat.zero_le _⟩ (fun H locs hw => ?_)
                      refine lv_goto (tgt := 218) hx hb dX2_typeOf_213 (by decide) ?_
                      cases hm
                      exact g_iret C hw dX2_typeOf_218
                  · have hm := it_f hc28 hm
                    refine br_by (c := r5 = 29) (fun hc => ?_) (fun hc29 => ?_)
                    · have hm := it_t hc hm
                      refine lv_tableIn (off := 211) (tgt := 219) hx hb dX2_typeOf_8 (by rw [hc]; decide) (by rw [hc]; decide) (by rw [hc]; rfl) (by decide) ?_
                      refine lv_aload_n hx hb dX2_typeOf_219 rfl (lv_at hl 0 rfl) ?_
                      refine lv_iload_n hx hb dX2_typeOf_220 rfl (lv_at hl 1 rfl) ?_
                      obtain ⟨r221, iv221, ar221, la221, pA221, pB221, hc221, hm⟩ := obc_some hm
                      refine g_calli (As := [.int a1]) (rest := []) C hw (kX2_typeOfGather hc221) mtX2_typeOfGather lkX2_126 oC2 hl.1 rfl rfl (Nat.le_of_ble_eq_true rfl) ⟨Nat.le_of_ble_eq_true rfl, Nat.le_of_ble_eq_true rfl⟩ dX2_typeOf_221 ⟨Nat.zero_le _, Nat.zero_le _⟩ (fun H locs hw => ?_)
                      cases hm
                      exact g_iret C hw dX2_typeOf_224
                    · have hm := it_f hc29 hm
                      refine br_by (c := r5 = 30) (fun hc => ?_) (fun hc30 => ?_)
                      · have hm := it_t hc hm
                        refine lv_tableIn (off := 217) (tgt := 225) hx hb dX2_typeOf_8 (by rw [hc]; decide) (by rw [hc]; decide) (by rw [hc]; rfl) (by decide) ?_
                        refine lv_aload_n hx hb dX2_typeOf_225 rfl (lv_at hl 0 rfl) ?_
                        refine lv_aload_n hx hb dX2_typeOf_226 rfl (lv_at hl 0 rfl) ?_
                        refine lv_iload_n hx hb dX2_typeOf_227 rfl (lv_at hl 1 rfl) ?_
                        refine lv_iconst (v := 0) hx hb dX2_typeOf_228 ci_0 ?_
                        obtain ⟨r229, iv229, ar229, la229, pA229, pB229, hc229, hm⟩ := obc_some hm
                        refine g_calli (As := [.int a1, .int 0]) (rest := [.ref (oc 2)]) C hw (kX2_typeIn hc229) mtX2_typeIn lkX2_84 oC2 hl.1 rfl rfl (Nat.le_of_ble_eq_true rfl) ⟨Nat.le_of_ble_eq_true rfl, Nat.le_of_ble_eq_true rfl⟩ dX2_typeOf_229 ⟨Nat.zero_le _, Nat.zero_le _⟩ (fun H locs hw => ?_)
                        refine lv_aload_n hx hb dX2_typeOf_232 rfl (lv_at hl 0 rfl) ?_
                        refine g_get C hw gC2_3 dX2_typeOf_233 ?_
                        refine lv_iload_n hx hb dX2_typeOf_236 rfl (lv_at hl 1 rfl) ?_
                        refine lv_iconst (v := 1) hx hb dX2_typeOf_237 ci_1 ?_
                        refine lv_iadd hx hb dX2_typeOf_238 ?_
                        obtain ⟨r239, iv239, ar239, la239, pA239, pB239, hc239, hm⟩ := obc_some hm
                        refine g_calli (As := [.int (a1 + 1)]) (rest := [.int r229, .ref (oc 2)]) C hw (kX6_wordB hc239) mtX6_word lkX2_72 oC6B hl.1 rfl rfl (Nat.le_of_ble_eq_true rfl) ⟨Nat.le_of_ble_eq_true rfl, Nat.le_of_ble_eq_true rfl⟩ dX2_typeOf_239 ⟨Nat.zero_le _, Nat.zero_le _⟩ (fun H locs hw => ?_)
                        obtain ⟨r242, iv242, ar242, la242, pA242, pB242, hc242, hm⟩ := obc_some hm
                        refine g_calli (As := [.int r229, .int r239]) (rest := []) C hw (kX2_typeOfPick hc242) mtX2_typeOfPick lkX2_129 oC2 hl.1 rfl rfl (Nat.le_of_ble_eq_true rfl) ⟨Nat.le_of_ble_eq_true rfl, Nat.le_of_ble_eq_true rfl⟩ dX2_typeOf_242 ⟨Nat.zero_le _, Nat.zero_le _⟩ (fun H locs hw => ?_)
                        cases hm
                        exact g_iret C hw dX2_typeOf_245
                      · have hm := it_f hc30 hm
                        refine br_by (c := r5 = 31) (fun hc => ?_) (fun hc31 => ?_)
                        · have hm := it_t hc hm
                          refine lv_tableIn (off := 238) (tgt := 246) hx hb dX2_typeOf_8 (by rw [hc]; decide) (by rw [hc]; decide) (by rw [hc]; rfl) (by decide) ?_
                          refine lv_aload_n hx hb dX2_typeOf_246 rfl (lv_at hl 0 rfl) ?_
                          refine lv_aload_n hx hb dX2_typeOf_247 rfl (lv_at hl 0 rfl) ?_
                          refine g_get C hw gC2_3 dX2_typeOf_248 ?_
                          refine lv_iload_n hx hb dX2_typeOf_251 rfl (lv_at hl 1 rfl) ?_
                          refine lv_iconst (v := 1) hx hb dX2_typeOf_252 ci_1 ?_
                          refine lv_iadd hx hb dX2_typeOf_253 ?_
                          obtain ⟨r254, iv254, ar254, la254, pA254, pB254, hc254, hm⟩ := obc_some hm
                          refine g_calli (As := [.int (a1 + 1)]) (rest := [.ref (oc 2)]) C hw (kX6_wordB hc254) mtX6_word lkX2_72 oC6B hl.1 rfl rfl (Nat.le_of_ble_eq_true rfl) ⟨Nat.le_of_ble_eq_true rfl, Nat.le_of_ble_eq_true rfl⟩ dX2_typeOf_254 ⟨Nat.zero_le _, Nat.zero_le _⟩ (fun H locs hw => ?_)
                          refine lv_aload_n hx hb dX2_typeOf_257 rfl (lv_at hl 0 rfl) ?_
                          refine g_get C hw gC2_3 dX2_typeOf_258 ?_
                          refine lv_iload_n hx hb dX2_typeOf_261 rfl (lv_at hl 1 rfl) ?_
                          refine lv_iconst (v := 2) hx hb dX2_typeOf_262 ci_2 ?_
                          refine lv_iadd hx hb dX2_typeOf_263 ?_
                          obtain ⟨r264, iv264, ar264, la264, pA264, pB264, hc264, hm⟩ := obc_some hm
                          refine g_calli (As := [.int (a1 + 2)]) (rest := [.int r254, .ref (oc 2)]) C hw (kX6_wordB hc264) mtX6_word lkX2_72 oC6B hl.1 rfl rfl (Nat.le_of_ble_eq_true rfl) ⟨Nat.le_of_ble_eq_true rfl, Nat.le_of_ble_eq_true rfl⟩ dX2_typeOf_264 ⟨Nat.zero_le _, Nat.zero_le _⟩ (fun H locs hw => ?_)
                          refine lv_aload_n hx hb dX2_typeOf_267 rfl (lv_at hl 0 rfl) ?_
                          refine lv_iload_n hx hb dX2_typeOf_268 rfl (lv_at hl 1 rfl) ?_
                          refine lv_iconst (v := 0) hx hb dX2_typeOf_269 ci_0 ?_
                          obtain ⟨r270, iv270, ar270, la270, pA270, pB270, hc270, hm⟩ := obc_some hm
                          refine g_calli (As := [.int a1, .int 0]) (rest := [.int r264, .int r254, .ref (oc 2)]) C hw (kX2_typeIn hc270) mtX2_typeIn lkX2_84 oC2 hl.1 rfl rfl (Nat.le_of_ble_eq_true rfl) ⟨Nat.le_of_ble_eq_true rfl, Nat.le_of_ble_eq_true rfl⟩ dX2_typeOf_270 ⟨Nat.zero_le _, Nat.zero_le _⟩ (fun H locs hw => ?_)
                          obtain ⟨r273, iv273, ar273, la273, pA273, pB273, hc273, hm⟩ := obc_some hm
                          refine g_calli (As := [.int r254, .int r264, .int r270]) (rest := []) C hw (kX2_typeOfTag hc273) mtX2_typeOfTag lkX2_132 oC2 hl.1 rfl rfl (Nat.le_of_ble_eq_true rfl) ⟨Nat.le_of_ble_eq_true rfl, Nat.le_of_ble_eq_true rfl⟩ dX2_typeOf_273 ⟨Nat.zero_le _, Nat.zero_le _⟩ (fun H locs hw => ?_)
                          cases hm
                          exact g_iret C hw dX2_typeOf_276
                        · have hm := it_f hc31 hm
                          refine br_by (c := r5 = 32) (fun hc => ?_) (fun hc32 => ?_)
                          · have hm := it_t hc hm
                            refine lv_tableIn (off := 269) (tgt := 277) hx hb dX2_typeOf_8 (by rw [hc]; decide) (by rw [hc]; decide) (by rw [hc]; rfl) (by decide) ?_
                            refine lv_aload_n hx hb dX2_typeOf_277 rfl (lv_at hl 0 rfl) ?_
                            refine lv_iload_n hx hb dX2_typeOf_278 rfl (lv_at hl 1 rfl) ?_
                            obtain ⟨r279, iv279, ar279, la279, pA279, pB279, hc279, hm⟩ := obc_some hm
                            refine g_calli (As := [.int a1]) (rest := []) C hw (kX2_typeOfSort hc279) mtX2_typeOfSort lkX2_135 oC2 hl.1 rfl rfl (Nat.le_of_ble_eq_true rfl) ⟨Nat.le_of_ble_eq_true rfl, Nat.le_of_ble_eq_true rfl⟩ dX2_typeOf_279 ⟨Nat.zero_le _, Nat.zero_le _⟩ (fun H locs hw => ?_)
                            cases hm
                            exact g_iret C hw dX2_typeOf_282
                          · have hm := it_f hc32 hm
                            refine br_by (c := r5 = 33) (fun hc => ?_) (fun hc33 => ?_)
                            · have hm := it_t hc hm
                              refine lv_tableIn (off := 275) (tgt := 283) hx hb dX2_typeOf_8 (by rw [hc]; decide) (by rw [hc]; decide) (by rw [hc]; rfl) (by decide) ?_
                              refine lv_aload_n hx hb dX2_typeOf_283 rfl (lv_at hl 0 rfl) ?_
                              refine lv_aload_n hx hb dX2_typeOf_284 rfl (lv_at hl 0 rfl) ?_
                              refine g_get C hw gC2_3 dX2_typeOf_285 ?_
                              refine lv_iload_n hx hb dX2_typeOf_288 rfl (lv_at hl 1 rfl) ?_
                              refine lv_iconst (v := 1) hx hb dX2_typeOf_289 ci_1 ?_
                              refine lv_iadd hx hb dX2_typeOf_290 ?_
                              obtain ⟨r291, iv291, ar291, la291, pA291, pB291, hc291, hm⟩ := obc_some hm
                              refine g_calli (As := [.int (a1 + 1)]) (rest := [.ref (oc 2)]) C hw (kX6_wordB hc291) mtX6_word lkX2_72 oC6B hl.1 rfl rfl (Nat.le_of_ble_eq_true rfl) ⟨Nat.le_of_ble_eq_true rfl, Nat.le_of_ble_eq_true rfl⟩ dX2_typeOf_291 ⟨Nat.zero_le _, Nat.zero_le _⟩ (fun H locs hw => ?_)
                              refine lv_aload_n hx hb dX2_typeOf_294 rfl (lv_at hl 0 rfl) ?_
                              refine lv_iload_n hx hb dX2_typeOf_295 rfl (lv_at hl 1 rfl) ?_
                              refine lv_iconst (v := 0) hx hb dX2_typeOf_296 ci_0 ?_
                              obtain ⟨r297, iv297, ar297, la297, pA297, pB297, hc297, hm⟩ := obc_some hm
                              refine g_calli (As := [.int a1, .int 0]) (rest := [.int r291, .ref (oc 2)]) C hw (kX2_typeIn hc297) mtX2_typeIn lkX2_84 oC2 hl.1 rfl rfl (Nat.le_of_ble_eq_true rfl) ⟨Nat.le_of_ble_eq_true rfl, Nat.le_of_ble_eq_true rfl⟩ dX2_typeOf_297 ⟨Nat.zero_le _, Nat.zero_le _⟩ (fun H locs hw => ?_)
                              obtain ⟨r300, iv300, ar300, la300, pA300, pB300, hc300, hm⟩ := obc_some hm
                              refine g_calli (As := [.int r291, .int r297]) (rest := []) C hw (kX2_typeOfItself hc300) mtX2_typeOfItself lkX2_138 oC2 hl.1 rfl rfl (Nat.le_of_ble_eq_true rfl) ⟨Nat.le_of_ble_eq_true rfl, Nat.le_of_ble_eq_true rfl⟩ dX2_typeOf_300 ⟨Nat.zero_le _, Nat.zero_le _⟩ (fun H locs hw => ?_)
                              cases hm
                              exact g_iret C hw dX2_typeOf_303
                            · have hm := it_f hc33 hm
                              have ho : (r5).toInt < 20 ∨ 33 < (r5).toInt := by
                                have ehc20 := sw_ne (n := 20) hc20 (by decide)
                                have ehc21 := sw_ne (n := 21) hc21 (by decide)
                                have ehc22 := sw_ne (n := 22) hc22 (by decide)
                                have ehc23 := sw_ne (n := 23) hc23 (by decide)
                                have ehc24 := sw_ne (n := 24) hc24 (by decide)
                                have ehc25 := sw_ne (n := 25) hc25 (by decide)
                                have ehc26 := sw_ne (n := 26) hc26 (by decide)
                                have ehc27 := sw_ne (n := 27) hc27 (by decide)
                                have ehc28 := sw_ne (n := 28) hc28 (by decide)
                                have ehc29 := sw_ne (n := 29) hc29 (by decide)
                                have ehc30 := sw_ne (n := 30) hc30 (by decide)
                                have ehc31 := sw_ne (n := 31) hc31 (by decide)
                                have ehc32 := sw_ne (n := 32) hc32 (by decide)
                                have ehc33 := sw_ne (n := 33) hc33 (by decide)
                                omega
                              refine lv_tableOut (tgt := 304) hx hb dX2_typeOf_8 ho (by decide) ?_
                              refine lv_bipush (v := (-15)) hx hb dX2_typeOf_304 cb_m15 ?_
                              cases hm
                              exact g_iret C hw dX2_typeOf_306
def mX0_madeFor_L5 : Nat → Int32 → Int32 → mI → mA → mL → mA → mA → Option (Int32 × mI × mA × mL × mA × mA)
  | 0, _, _, _, _, _, _, _ => none
  | n + 1, l1, l2, iv, ar, la, pA, pB => obc (mX3_size iv ar la pA pB) (fun r10 iv10 ar10 la10 pA10 pB10 => if r10 ≤ l2 then some ((-1), iv10, ar10, la10, pA10, pB10) else if 200 ≤ l2 then some ((-1), iv10, ar10, la10, pA10, pB10) else if l2 < 0 ∨ 200 ≤ l2.toNatClampNeg then none else if (ar10 1 l2.toNatClampNeg) = l1 then some (l2, iv10, ar10, la10, pA10, pB10) else mX0_madeFor_L5 n l1 (l2 + 1) iv10 ar10 la10 pA10 pB10)
set_option maxRecDepth 100000 in
set_option maxHeartbeats 4000000 in
theorem wX0_madeFor_L5 (C : mCx p s m args meth c RX0 cX0_madeFor 3 (some .int) D cI cJ A) (n : Nat) : ∀ (l1 : Int32) (l2 : Int32) (iv : mI) (ar : mA) (la : mL) (pA : mA) (pB : mA) (rz : Int32) (ivz : mI) (arz : mA) (laz : mL) (pAz : mA) (pBz : mA), mX0_madeFor_L5 n l1 l2 iv ar la pA pB = some (rz, ivz, arz, laz, pAz, pBz) → ∀ (H : Heap) (locs : List Loc) (ls : Array Slot), lv_has ls 3 [(0, .ref (oc 0)), (1, .int l1), (2, .int l2)] → inW D A s (wC cI cJ oc ac pa pb aa ab xp xs tp cp mp iv ar la pA pB) H locs → W p l e (rmO 1 20) s m args below meth c H locs 0 0 (MQ below (ctQ D cI cJ (wC cI cJ oc ac pa pb aa ab xp xs tp cp mp ivz arz laz pAz pBz) A rz) args s 0 0 A) (F0 m 5 ls []) := by
  induction n with
  | zero =>
    intro l1 l2 iv ar la pA pB rz ivz arz laz pAz pBz hm H locs ls hl hw
    have hm : (none : Option (Int32 × mI × mA × mL × mA × mA)) = some _ := hm
    cases hm
  | succ n ih =>
    intro l1 l2 iv ar la pA pB rz ivz arz laz pAz pBz hm H locs ls hl hw
    have hx := C.1.1
    have hb := C.1.2.1
    unfold mX0_madeFor_L5 at hm
    refine lv_iload_n hx hb dX0_madeFor_5 rfl (lv_at hl 2 rfl) ?_
    refine lv_aload_n hx hb dX0_madeFor_6 rfl (lv_at hl 0 rfl) ?_
    refine g_get C hw gC0_0 dX0_madeFor_7 ?_
    obtain ⟨r10, iv10, ar10, la10, pA10, pB10, hc10, hm⟩ := obc_some hm
    refine g_calli (As := []) (rest := [.int l2]) C hw (kX3_size hc10) mtX3_size lkX0_25 oC3 hl.1 rfl rfl (Nat.le_of_ble_eq_true rfl) ⟨Nat.le_of_ble_eq_true rfl, Nat.le_of_ble_eq_true rfl⟩ dX0_madeFor_10 ⟨Nat.zero_le _, Nat.zero_le _⟩ (fun H locs hw => ?_)
    refine lv_icmp_ge (tgt := 41) hx hb dX0_madeFor_13 (by decide) (fun hc => ?_) (fun hc => ?_)
    · have hm := it_t hc hm
      refine lv_iconst (v := (-1)) hx hb dX0_madeFor_41 ci_m1 ?_
      cases hm
      exact g_iret C hw dX0_madeFor_42
    · have hm := it_f hc hm
      refine lv_iload_n hx hb dX0_madeFor_16 rfl (lv_at hl 2 rfl) ?_
      refine lv_sipush (v := 200) hx hb dX0_madeFor_17 cs_200 ?_
      refine lv_icmp_ge (tgt := 41) hx hb dX0_madeFor_20 (by decide) (fun hc => ?_) (fun hc => ?_)
      · have hm := it_t hc hm
        refine lv_iconst (v := (-1)) hx hb dX0_madeFor_41 ci_m1 ?_
        cases hm
        exact g_iret C hw dX0_madeFor_42
      · have hm := it_f hc hm
        refine lv_aload_n hx hb dX0_madeFor_23 rfl (lv_at hl 0 rfl) ?_
        refine g_get C hw gC0_1 dX0_madeFor_24 ?_
        refine lv_iload_n hx hb dX0_madeFor_27 rfl (lv_at hl 2 rfl) ?_
        obtain ⟨hi, hm⟩ := it_a hm
        refine g_ald C hw aC0_1 hi dX0_madeFor_28 ?_
        refine lv_iload_n hx hb dX0_madeFor_29 rfl (lv_at hl 1 rfl) ?_
        refine lv_icmp_ne (tgt := 35) hx hb dX0_madeFor_30 (by decide) (fun hc => ?_) (fun hc => ?_)
        · have hm := it_f hc hm
          refine lv_iinc (v := (l2 + 1)) (lv' := [(2, .int (l2 + 1)), (0, .ref (oc 0)), (1, .int l1)]) hx hb dX0_madeFor_35 hl (k := 2) rfl (ii_ ci_1) (by decide) rfl (fun ls hl => ?_)
          refine lv_goto (tgt := 5) hx hb dX0_madeFor_38 (by decide) ?_
          exact ih _ _ _ _ _ _ _ _ _ _ _ _ _ hm _ _ _ (lv_sub hl [1, 2, 0] rfl) hw
        · have hm := it_t hc hm
          refine lv_iload_n hx hb dX0_madeFor_33 rfl (lv_at hl 2 rfl) ?_
          cases hm
          exact g_iret C hw dX0_madeFor_34
def mX0_madeFor (a1 : Int32) (iv : mI) (ar : mA) (la : mL) (pA : mA) (pB : mA) : Option (Int32 × mI × mA × mL × mA × mA) := mX0_madeFor_L5 bigF a1 (iv 5) iv ar la pA pB
set_option maxRecDepth 100000 in
set_option maxHeartbeats 4000000 in
theorem kX0_madeFor {a1 : Int32} {iv ivz : mI} {ar arz : mA} {la laz : mL} {pA pAz : mA} {pB pBz : mA} {rz : Int32} (hm : mX0_madeFor a1 iv ar la pA pB = some (rz, ivz, arz, laz, pAz, pBz)) : Ct l D cI cJ yX0_madeFor cX0_madeFor 3 (some .int) 1 20 [.ref (oc 0), .int a1] (wC cI cJ oc ac pa pb aa ab xp xs tp cp mp iv ar la pA pB) (wC cI cJ oc ac pa pb aa ab xp xs tp cp mp ivz arz laz pAz pBz) rz := by
  intro sz
  refine ct_of (by decide) (Nat.le_of_ble_eq_true rfl) ?_
  intro p e s m args below meth c C hw ls hl
  have hl : lv_has ls 3 [(0, .ref (oc 0)), (1, .int a1)] := hl
  have hx := C.1.1
  have hb := C.1.2.1
  unfold mX0_madeFor at hm
  refine lv_aload_n hx hb dX0_madeFor_0 rfl (lv_at hl 0 rfl) ?_
  refine g_get C hw gC0_5 dX0_madeFor_1 ?_
  refine lv_istore_n (lv' := [(2, .int (iv 5)), (0, .ref (oc 0)), (1, .int a1)]) hx hb dX0_madeFor_4 rfl hl (by decide) rfl (fun ls hl => ?_)
  exact wX0_madeFor_L5 C bigF _ _ _ _ _ _ _ _ _ _ _ _ _ hm _ _ _ (lv_sub hl [1, 2, 0] rfl) hw
def mX0_makeFor_J26 (l1 : Int32) (l2 : Int32) (s0 : Int32) (iv : mI) (ar : mA) (la : mL) (pA : mA) (pB : mA) : Option (Int32 × mI × mA × mL × mA × mA) := if s0 < 0 then some ((-3), iv, ar, la, pA, pB) else if s0 < 200 then if s0 < 0 ∨ 200 ≤ s0.toNatClampNeg then none else if l2 < 4 then some (s0, iv, au ar 1 s0.toNatClampNeg l1, la, pA, pB) else if 200 ≤ (iv 4) then some (s0, iv, au ar 1 s0.toNatClampNeg l1, la, pA, pB) else if (iv 4) < 0 ∨ 200 ≤ (iv 4).toNatClampNeg then none else if (iv 4) < 0 ∨ 200 ≤ (iv 4).toNatClampNeg then none else some (s0, va_up iv 4 ((iv 4) + 1), au (au (au ar 1 s0.toNatClampNeg l1) 2 (iv 4).toNatClampNeg s0) 3 (iv 4).toNatClampNeg 0, la, pA, pB) else some ((-3), iv, ar, la, pA, pB)
set_option maxRecDepth 100000 in
set_option maxHeartbeats 4000000 in
theorem wX0_makeFor_J26 (C : mCx p s m args meth c RX0 cX0_makeFor 4 (some .int) D cI cJ A) : ∀ (l1 : Int32) (l2 : Int32) (s0 : Int32) (iv : mI) (ar : mA) (la : mL) (pA : mA) (pB : mA) (rz : Int32) (ivz : mI) (arz : mA) (laz : mL) (pAz : mA) (pBz : mA), mX0_makeFor_J26 l1 l2 s0 iv ar la pA pB = some (rz, ivz, arz, laz, pAz, pBz) → ∀ (H : Heap) (locs : List Loc) (ls : Array Slot), lv_has ls 4 [(0, .ref (oc 0)), (1, .int l1), (2, .int l2)] → inW D A s (wC cI cJ oc ac pa pb aa ab xp xs tp cp mp iv ar la pA pB) H locs → W p l e (rmO 1 21) s m args below meth c H locs 0 0 (MQ below (ctQ D cI cJ (wC cI cJ oc ac pa pb aa ab xp xs tp cp mp ivz arz laz pAz pBz) A rz) args s 0 0 A) (F0 m 26 ls [.int s0]) := by
  intro l1 l2 s0 iv ar la pA pB rz ivz arz laz pAz pBz hm H locs ls hl hw
  have hx := C.1.1
  have hb := C.1.2.1
  unfold mX0_makeFor_J26 at hm
  refine lv_istore_n (lv' := [(3, .int s0), (0, .ref (oc 0)), (1, .int l1), (2, .int l2)]) hx hb dX0_makeFor_26 rfl hl (by decide) rfl (fun ls hl => ?_)
  refine lv_iload_n hx hb dX0_makeFor_27 rfl (lv_at hl 0 rfl) ?_
  refine lv_if_lt (tgt := 38) hx hb dX0_makeFor_28 (by decide) (fun hc => ?_) (fun hc => ?_)
  · have hm := it_t hc hm
    refine lv_bipush (v := (-3)) hx hb dX0_makeFor_38 cb_m3 ?_
    cases hm
    exact g_iret C hw dX0_makeFor_40
  · have hm := it_f hc hm
    refine lv_iload_n hx hb dX0_makeFor_31 rfl (lv_at hl 0 rfl) ?_
    refine lv_sipush (v := 200) hx hb dX0_makeFor_32 cs_200 ?_
    refine lv_icmp_lt (tgt := 41) hx hb dX0_makeFor_35 (by decide) (fun hc => ?_) (fun hc => ?_)
    · have hm := it_t hc hm
      refine lv_aload_n hx hb dX0_makeFor_41 rfl (lv_at hl 1 rfl) ?_
      refine g_get C hw gC0_1 dX0_makeFor_42 ?_
      refine lv_iload_n hx hb dX0_makeFor_45 rfl (lv_at hl 0 rfl) ?_
      refine lv_iload_n hx hb dX0_makeFor_46 rfl (lv_at hl 2 rfl) ?_
      obtain ⟨hi, hm⟩ := it_a hm
      refine g_ast C hw sC0_1 hi dX0_makeFor_47 (fun H locs hw => ?_)
      refine lv_iload_n hx hb dX0_makeFor_48 rfl (lv_at hl 3 rfl) ?_
      refine lv_iconst (v := 4) hx hb dX0_makeFor_49 ci_4 ?_
      refine lv_icmp_lt (tgt := 93) hx hb dX0_makeFor_50 (by decide) (fun hc => ?_) (fun hc => ?_)
      · have hm := it_t hc hm
        refine lv_iload_n hx hb dX0_makeFor_93 rfl (lv_at hl 0 rfl) ?_
        cases hm
        exact g_iret C hw dX0_makeFor_94
      · have hm := it_f hc hm
        refine lv_aload_n hx hb dX0_makeFor_53 rfl (lv_at hl 1 rfl) ?_
        refine g_get C hw gC0_4 dX0_makeFor_54 ?_
        refine lv_sipush (v := 200) hx hb dX0_makeFor_57 cs_200 ?_
        refine lv_icmp_ge (tgt := 93) hx hb dX0_makeFor_60 (by decide) (fun hc => ?_) (fun hc => ?_)
        · have hm := it_t hc hm
          refine lv_iload_n hx hb dX0_makeFor_93 rfl (lv_at hl 0 rfl) ?_
          cases hm
          exact g_iret C hw dX0_makeFor_94
        · have hm := it_f hc hm
          refine lv_aload_n hx hb dX0_makeFor_63 rfl (lv_at hl 1 rfl) ?_
          refine g_get C hw gC0_2 dX0_makeFor_64 ?_
          refine lv_aload_n hx hb dX0_makeFor_67 rfl (lv_at hl 1 rfl) ?_
          refine g_get C hw gC0_4 dX0_makeFor_68 ?_
          refine lv_iload_n hx hb dX0_makeFor_71 rfl (lv_at hl 0 rfl) ?_
          obtain ⟨hi, hm⟩ := it_a hm
          refine g_ast C hw sC0_2 hi dX0_makeFor_72 (fun H locs hw => ?_)
          refine lv_aload_n hx hb dX0_makeFor_73 rfl (lv_at hl 1 rfl) ?_
          refine g_get C hw gC0_3 dX0_makeFor_74 ?_
          refine lv_aload_n hx hb dX0_makeFor_77 rfl (lv_at hl 1 rfl) ?_
          refine g_get C hw gC0_4 dX0_makeFor_78 ?_
          refine lv_iconst (v := 0) hx hb dX0_makeFor_81 ci_0 ?_
          obtain ⟨hi, hm⟩ := it_a hm
          refine g_ast C hw sC0_3 hi dX0_makeFor_82 (fun H locs hw => ?_)
          refine lv_aload_n hx hb dX0_makeFor_83 rfl (lv_at hl 1 rfl) ?_
          refine lv_dup hx hb dX0_makeFor_84 rfl ?_
          refine g_get C hw gC0_4 dX0_makeFor_85 ?_
          refine lv_iconst (v := 1) hx hb dX0_makeFor_88 ci_1 ?_
          refine lv_iadd hx hb dX0_makeFor_89 ?_
          refine g_put C hw pC0_4 dX0_makeFor_90 (fun H locs hw => ?_)
          refine lv_iload_n hx hb dX0_makeFor_93 rfl (lv_at hl 0 rfl) ?_
          cases hm
          exact g_iret C hw dX0_makeFor_94
    · have hm := it_f hc hm
      refine lv_bipush (v := (-3)) hx hb dX0_makeFor_38 cb_m3 ?_
      cases hm
      exact g_iret C hw dX0_makeFor_40
def mX0_makeFor (a1 : Int32) (a2 : Int32) (iv : mI) (ar : mA) (la : mL) (pA : mA) (pB : mA) : Option (Int32 × mI × mA × mL × mA × mA) := obc (mX3_size iv ar la pA pB) (fun r4 iv4 ar4 la4 pA4 pB4 => if 200 ≤ r4 then mX0_makeFor_J26 a1 a2 (-3) iv4 ar4 la4 pA4 pB4 else obc (mX3_draft a2 iv4 ar4 la4 pA4 pB4) (fun r18 iv18 ar18 la18 pA18 pB18 => mX0_makeFor_J26 a1 a2 r18 iv18 ar18 la18 pA18 pB18))
set_option maxRecDepth 100000 in
set_option maxHeartbeats 4000000 in
theorem kX0_makeFor {a1 a2 : Int32} {iv ivz : mI} {ar arz : mA} {la laz : mL} {pA pAz : mA} {pB pBz : mA} {rz : Int32} (hm : mX0_makeFor a1 a2 iv ar la pA pB = some (rz, ivz, arz, laz, pAz, pBz)) : Ct l D cI cJ yX0_makeFor cX0_makeFor 4 (some .int) 1 21 [.ref (oc 0), .int a1, .int a2] (wC cI cJ oc ac pa pb aa ab xp xs tp cp mp iv ar la pA pB) (wC cI cJ oc ac pa pb aa ab xp xs tp cp mp ivz arz laz pAz pBz) rz := by
  intro sz
  refine ct_of (by decide) (Nat.le_of_ble_eq_true rfl) ?_
  intro p e s m args below meth c C hw ls hl
  have hl : lv_has ls 4 [(0, .ref (oc 0)), (1, .int a1), (2, .int a2)] := hl
  have hx := C.1.1
  have hb := C.1.2.1
  unfold mX0_makeFor at hm
  refine lv_aload_n hx hb dX0_makeFor_0 rfl (lv_at hl 0 rfl) ?_
  refine g_get C hw gC0_0 dX0_makeFor_1 ?_
  obtain ⟨r4, iv4, ar4, la4, pA4, pB4, hc4, hm⟩ := obc_some hm
  refine g_calli (As := []) (rest := []) C hw (kX3_size hc4) mtX3_size lkX0_25 oC3 hl.1 rfl rfl (Nat.le_of_ble_eq_true rfl) ⟨Nat.le_of_ble_eq_true rfl, Nat.le_of_ble_eq_true rfl⟩ dX0_makeFor_4 ⟨Nat.zero_le _, Nat.zero_le _⟩ (fun H locs hw => ?_)
  refine lv_sipush (v := 200) hx hb dX0_makeFor_7 cs_200 ?_
  refine lv_icmp_ge (tgt := 24) hx hb dX0_makeFor_10 (by decide) (fun hc => ?_) (fun hc => ?_)
  · have hm := it_t hc hm
    refine lv_bipush (v := (-3)) hx hb dX0_makeFor_24 cb_m3 ?_
    exact wX0_makeFor_J26 C _ _ _ _ _ _ _ _ _ _ _ _ _ _ hm _ _ _ (lv_sub hl [0, 1, 2] rfl) hw
  · have hm := it_f hc hm
    refine lv_aload_n hx hb dX0_makeFor_13 rfl (lv_at hl 0 rfl) ?_
    refine g_get C hw gC0_0 dX0_makeFor_14 ?_
    refine lv_iload_n hx hb dX0_makeFor_17 rfl (lv_at hl 2 rfl) ?_
    obtain ⟨r18, iv18, ar18, la18, pA18, pB18, hc18, hm⟩ := obc_some hm
    refine g_calli (As := [.int a2]) (rest := []) C hw (kX3_draft hc18) mtX3_draft lkX0_73 oC3 hl.1 rfl rfl (Nat.le_of_ble_eq_true rfl) ⟨Nat.le_of_ble_eq_true rfl, Nat.le_of_ble_eq_true rfl⟩ dX0_makeFor_18 ⟨Nat.zero_le _, Nat.zero_le _⟩ (fun H locs hw => ?_)
    refine lv_goto (tgt := 26) hx hb dX0_makeFor_21 (by decide) ?_
    exact wX0_makeFor_J26 C _ _ _ _ _ _ _ _ _ _ _ _ _ _ hm _ _ _ (lv_sub hl [0, 1, 2] rfl) hw
def mX0_joinTop_J124 (l1 : Int32) (l2 : Int32) (l3 : Int32) (l5 : Int32) (l6 : Int32) (l7 : Int32) (iv : mI) (ar : mA) (la : mL) (pA : mA) (pB : mA) : Option (Int32 × mI × mA × mL × mA × mA) := obc (mX0_madeFor (((l1 <<< (16 &&& 31)) ||| (l2 <<< (8 &&& 31))) ||| l3) iv ar la pA pB) (fun r140 iv140 ar140 la140 pA140 pB140 => if r140 = (-1) then if l6 = l7 then obc (mX0_makeFor (((l1 <<< (16 &&& 31)) ||| (l2 <<< (8 &&& 31))) ||| l3) l6 iv140 ar140 la140 pA140 pB140) (fun r173 iv173 ar173 la173 pA173 pB173 => some (r173, iv173, ar173, la173, pA173, pB173)) else obc (mX0_makeFor (((l1 <<< (16 &&& 31)) ||| (l2 <<< (8 &&& 31))) ||| l3) l5 iv140 ar140 la140 pA140 pB140) (fun r173 iv173 ar173 la173 pA173 pB173 => some (r173, iv173, ar173, la173, pA173, pB173)) else some (r140, iv140, ar140, la140, pA140, pB140))
set_option maxRecDepth 100000 in
set_option maxHeartbeats 4000000 in
theorem wX0_joinTop_J124 (C : mCx p s m args meth c RX0 cX0_joinTop 10 (some .int) D cI cJ A) : ∀ (l1 : Int32) (l2 : Int32) (l3 : Int32) (l5 : Int32) (l6 : Int32) (l7 : Int32) (iv : mI) (ar : mA) (la : mL) (pA : mA) (pB : mA) (rz : Int32) (ivz : mI) (arz : mA) (laz : mL) (pAz : mA) (pBz : mA), mX0_joinTop_J124 l1 l2 l3 l5 l6 l7 iv ar la pA pB = some (rz, ivz, arz, laz, pAz, pBz) → ∀ (H : Heap) (locs : List Loc) (ls : Array Slot), lv_has ls 10 [(0, .ref (oc 0)), (1, .int l1), (2, .int l2), (3, .int l3), (5, .int l5), (6, .int l6), (7, .int l7)] → inW D A s (wC cI cJ oc ac pa pb aa ab xp xs tp cp mp iv ar la pA pB) H locs → W p l e (rmO 2 44) s m args below meth c H locs 0 0 (MQ below (ctQ D cI cJ (wC cI cJ oc ac pa pb aa ab xp xs tp cp mp ivz arz laz pAz pBz) A rz) args s 0 0 A) (F0 m 124 ls []) := by
  intro l1 l2 l3 l5 l6 l7 iv ar la pA pB rz ivz arz laz pAz pBz hm H locs ls hl hw
  have hx := C.1.1
  have hb := C.1.2.1
  unfold mX0_joinTop_J124 at hm
  refine lv_iload_n hx hb dX0_joinTop_124 rfl (lv_at hl 1 rfl) ?_
  refine lv_bipush (v := 16) hx hb dX0_joinTop_125 cb_16 ?_
  refine lv_ishl hx hb dX0_joinTop_127 ?_
  refine lv_iload_n hx hb dX0_joinTop_128 rfl (lv_at hl 2 rfl) ?_
  refine lv_bipush (v := 8) hx hb dX0_joinTop_129 cb_8 ?_
  refine lv_ishl hx hb dX0_joinTop_131 ?_
  refine lv_ior hx hb dX0_joinTop_132 ?_
  refine lv_iload_n hx hb dX0_joinTop_133 rfl (lv_at hl 3 rfl) ?_
  refine lv_ior hx hb dX0_joinTop_134 ?_
  refine lv_istore (lv' := [(8, .int (((l1 <<< (16 &&& 31)) ||| (l2 <<< (8 &&& 31))) ||| l3)), (0, .ref (oc 0)), (1, .int l1), (2, .int l2), (3, .int l3), (5, .int l5), (6, .int l6), (7, .int l7)]) hx hb dX0_joinTop_135 hl (by decide) rfl (fun ls hl => ?_)
  refine lv_aload_n hx hb dX0_joinTop_137 rfl (lv_at hl 1 rfl) ?_
  refine lv_iload hx hb dX0_joinTop_138 (lv_at hl 0 rfl) ?_
  obtain ⟨r140, iv140, ar140, la140, pA140, pB140, hc140, hm⟩ := obc_some hm
  refine g_calli (As := [.int (((l1 <<< (16 &&& 31)) ||| (l2 <<< (8 &&& 31))) ||| l3)]) (rest := []) C hw (kX0_madeFor hc140) mtX0_madeFor lkX0_67 oC0 hl.1 rfl rfl (Nat.le_of_ble_eq_true rfl) ⟨Nat.le_of_ble_eq_true rfl, Nat.le_of_ble_eq_true rfl⟩ dX0_joinTop_140 ⟨Nat.zero_le _, Nat.zero_le _⟩ (fun H locs hw => ?_)
  refine lv_istore (lv' := [(9, .int r140), (8, .int (((l1 <<< (16 &&& 31)) ||| (l2 <<< (8 &&& 31))) ||| l3)), (0, .ref (oc 0)), (1, .int l1), (2, .int l2), (3, .int l3), (5, .int l5), (6, .int l6), (7, .int l7)]) hx hb dX0_joinTop_143 hl (by decide) rfl (fun ls hl => ?_)
  refine lv_iload hx hb dX0_joinTop_145 (lv_at hl 0 rfl) ?_
  refine lv_iconst (v := (-1)) hx hb dX0_joinTop_147 ci_m1 ?_
  refine lv_icmp_eq (tgt := 156) hx hb dX0_joinTop_148 (by decide) (fun hc => ?_) (fun hc => ?_)
  · have hm := it_t hc hm
    refine lv_aload_n hx hb dX0_joinTop_156 rfl (lv_at hl 2 rfl) ?_
    refine lv_iload hx hb dX0_joinTop_157 (lv_at hl 1 rfl) ?_
    refine lv_iload hx hb dX0_joinTop_159 (lv_at hl 7 rfl) ?_
    refine lv_iload hx hb dX0_joinTop_161 (lv_at hl 8 rfl) ?_
    refine lv_icmp_ne (tgt := 171) hx hb dX0_joinTop_163 (by decide) (fun hc => ?_) (fun hc => ?_)
    · have hm := it_f hc hm
      refine lv_iload hx hb dX0_joinTop_171 (lv_at hl 6 rfl) ?_
      obtain ⟨r173, iv173, ar173, la173, pA173, pB173, hc173, hm⟩ := obc_some hm
      refine g_calli (As := [.int (((l1 <<< (16 &&& 31)) ||| (l2 <<< (8 &&& 31))) ||| l3), .int l5]) (rest := []) C hw (kX0_makeFor hc173) mtX0_makeFor lkX0_70 oC0 hl.1 rfl rfl (Nat.le_of_ble_eq_true rfl) ⟨Nat.le_of_ble_eq_true rfl, Nat.le_of_ble_eq_true rfl⟩ dX0_joinTop_173 ⟨Nat.zero_le _, Nat.zero_le _⟩ (fun H locs hw => ?_)
      cases hm
      exact g_iret C hw dX0_joinTop_176
    · have hm := it_t hc hm
      refine lv_iload hx hb dX0_joinTop_166 (lv_at hl 7 rfl) ?_
      refine lv_goto (tgt := 173) hx hb dX0_joinTop_168 (by decide) ?_
      obtain ⟨r173, iv173, ar173, la173, pA173, pB173, hc173, hm⟩ := obc_some hm
      refine g_calli (As := [.int (((l1 <<< (16 &&& 31)) ||| (l2 <<< (8 &&& 31))) ||| l3), .int l6]) (rest := []) C hw (kX0_makeFor hc173) mtX0_makeFor lkX0_70 oC0 hl.1 rfl rfl (Nat.le_of_ble_eq_true rfl) ⟨Nat.le_of_ble_eq_true rfl, Nat.le_of_ble_eq_true rfl⟩ dX0_joinTop_173 ⟨Nat.zero_le _, Nat.zero_le _⟩ (fun H locs hw => ?_)
      cases hm
      exact g_iret C hw dX0_joinTop_176
  · have hm := it_f hc hm
    refine lv_iload hx hb dX0_joinTop_151 (lv_at hl 0 rfl) ?_
    refine lv_goto (tgt := 176) hx hb dX0_joinTop_153 (by decide) ?_
    cases hm
    exact g_iret C hw dX0_joinTop_176
def mX0_joinTop_J90 (l2 : Int32) (l3 : Int32) (l5 : Int32) (l6 : Int32) (iv : mI) (ar : mA) (la : mL) (pA : mA) (pB : mA) : Option (Int32 × mI × mA × mL × mA × mA) := if l6 = l5 then some (l2, iv, ar, la, pA, pB) else some (l3, iv, ar, la, pA, pB)
set_option maxRecDepth 100000 in
set_option maxHeartbeats 4000000 in
theorem wX0_joinTop_J90 (C : mCx p s m args meth c RX0 cX0_joinTop 10 (some .int) D cI cJ A) : ∀ (l2 : Int32) (l3 : Int32) (l5 : Int32) (l6 : Int32) (iv : mI) (ar : mA) (la : mL) (pA : mA) (pB : mA) (rz : Int32) (ivz : mI) (arz : mA) (laz : mL) (pAz : mA) (pBz : mA), mX0_joinTop_J90 l2 l3 l5 l6 iv ar la pA pB = some (rz, ivz, arz, laz, pAz, pBz) → ∀ (H : Heap) (locs : List Loc) (ls : Array Slot), lv_has ls 10 [(2, .int l2), (3, .int l3), (5, .int l5), (6, .int l6)] → inW D A s (wC cI cJ oc ac pa pb aa ab xp xs tp cp mp iv ar la pA pB) H locs → W p l e (rmO 2 44) s m args below meth c H locs 0 0 (MQ below (ctQ D cI cJ (wC cI cJ oc ac pa pb aa ab xp xs tp cp mp ivz arz laz pAz pBz) A rz) args s 0 0 A) (F0 m 90 ls []) := by
  intro l2 l3 l5 l6 iv ar la pA pB rz ivz arz laz pAz pBz hm H locs ls hl hw
  have hx := C.1.1
  have hb := C.1.2.1
  unfold mX0_joinTop_J90 at hm
  refine lv_iload hx hb dX0_joinTop_90 (lv_at hl 3 rfl) ?_
  refine lv_iload hx hb dX0_joinTop_92 (lv_at hl 2 rfl) ?_
  refine lv_icmp_ne (tgt := 101) hx hb dX0_joinTop_94 (by decide) (fun hc => ?_) (fun hc => ?_)
  · have hm := it_f hc hm
    refine lv_iload_n hx hb dX0_joinTop_101 rfl (lv_at hl 1 rfl) ?_
    cases hm
    exact g_iret C hw dX0_joinTop_102
  · have hm := it_t hc hm
    refine lv_iload_n hx hb dX0_joinTop_97 rfl (lv_at hl 0 rfl) ?_
    refine lv_goto (tgt := 102) hx hb dX0_joinTop_98 (by decide) ?_
    cases hm
    exact g_iret C hw dX0_joinTop_102
def mX0_joinTop_J63 (l2 : Int32) (l3 : Int32) (l4 : Int32) (l6 : Int32) (iv : mI) (ar : mA) (la : mL) (pA : mA) (pB : mA) : Option (Int32 × mI × mA × mL × mA × mA) := if l6 = l4 then some (l3, iv, ar, la, pA, pB) else some (l2, iv, ar, la, pA, pB)
set_option maxRecDepth 100000 in
set_option maxHeartbeats 4000000 in
theorem wX0_joinTop_J63 (C : mCx p s m args meth c RX0 cX0_joinTop 10 (some .int) D cI cJ A) : ∀ (l2 : Int32) (l3 : Int32) (l4 : Int32) (l6 : Int32) (iv : mI) (ar : mA) (la : mL) (pA : mA) (pB : mA) (rz : Int32) (ivz : mI) (arz : mA) (laz : mL) (pAz : mA) (pBz : mA), mX0_joinTop_J63 l2 l3 l4 l6 iv ar la pA pB = some (rz, ivz, arz, laz, pAz, pBz) → ∀ (H : Heap) (locs : List Loc) (ls : Array Slot), lv_has ls 10 [(2, .int l2), (3, .int l3), (4, .int l4), (6, .int l6)] → inW D A s (wC cI cJ oc ac pa pb aa ab xp xs tp cp mp iv ar la pA pB) H locs → W p l e (rmO 2 44) s m args below meth c H locs 0 0 (MQ below (ctQ D cI cJ (wC cI cJ oc ac pa pb aa ab xp xs tp cp mp ivz arz laz pAz pBz) A rz) args s 0 0 A) (F0 m 63 ls []) := by
  intro l2 l3 l4 l6 iv ar la pA pB rz ivz arz laz pAz pBz hm H locs ls hl hw
  have hx := C.1.1
  have hb := C.1.2.1
  unfold mX0_joinTop_J63 at hm
  refine lv_iload hx hb dX0_joinTop_63 (lv_at hl 3 rfl) ?_
  refine lv_iload hx hb dX0_joinTop_65 (lv_at hl 2 rfl) ?_
  refine lv_icmp_ne (tgt := 74) hx hb dX0_joinTop_67 (by decide) (fun hc => ?_) (fun hc => ?_)
  · have hm := it_f hc hm
    refine lv_iload_n hx hb dX0_joinTop_74 rfl (lv_at hl 0 rfl) ?_
    cases hm
    exact g_iret C hw dX0_joinTop_75
  · have hm := it_t hc hm
    refine lv_iload_n hx hb dX0_joinTop_70 rfl (lv_at hl 1 rfl) ?_
    refine lv_goto (tgt := 75) hx hb dX0_joinTop_71 (by decide) ?_
    cases hm
    exact g_iret C hw dX0_joinTop_75
def mX0_joinTop_J20 (l1 : Int32) (l2 : Int32) (l3 : Int32) (l4 : Int32) (s0 : Int32) (iv : mI) (ar : mA) (la : mL) (pA : mA) (pB : mA) : Option (Int32 × mI × mA × mL × mA × mA) := obc (mX3_kindOf l2 iv ar la pA pB) (fun r27 iv27 ar27 la27 pA27 pB27 => obc (mX3_kindOf l3 iv27 ar27 la27 pA27 pB27) (fun r37 iv37 ar37 la37 pA37 pB37 => if l2 = l3 then some (l2, iv37, ar37, la37, pA37, pB37) else if r27 = l4 then mX0_joinTop_J63 l2 l3 l4 r27 iv37 ar37 la37 pA37 pB37 else if r37 = l4 then mX0_joinTop_J63 l2 l3 l4 r27 iv37 ar37 la37 pA37 pB37 else if r27 = s0 then mX0_joinTop_J90 l2 l3 s0 r27 iv37 ar37 la37 pA37 pB37 else if r37 = s0 then mX0_joinTop_J90 l2 l3 s0 r27 iv37 ar37 la37 pA37 pB37 else if r27 = r37 then if r27 = 2 then some (l2, iv37, ar37, la37, pA37, pB37) else if r27 = 3 then some (l2, iv37, ar37, la37, pA37, pB37) else mX0_joinTop_J124 l1 l2 l3 s0 r27 r37 iv37 ar37 la37 pA37 pB37 else mX0_joinTop_J124 l1 l2 l3 s0 r27 r37 iv37 ar37 la37 pA37 pB37))
set_option maxRecDepth 100000 in
set_option maxHeartbeats 4000000 in
theorem wX0_joinTop_J20 (C : mCx p s m args meth c RX0 cX0_joinTop 10 (some .int) D cI cJ A) : ∀ (l1 : Int32) (l2 : Int32) (l3 : Int32) (l4 : Int32) (s0 : Int32) (iv : mI) (ar : mA) (la : mL) (pA : mA) (pB : mA) (rz : Int32) (ivz : mI) (arz : mA) (laz : mL) (pAz : mA) (pBz : mA), mX0_joinTop_J20 l1 l2 l3 l4 s0 iv ar la pA pB = some (rz, ivz, arz, laz, pAz, pBz) → ∀ (H : Heap) (locs : List Loc) (ls : Array Slot), lv_has ls 10 [(0, .ref (oc 0)), (1, .int l1), (2, .int l2), (3, .int l3), (4, .int l4)] → inW D A s (wC cI cJ oc ac pa pb aa ab xp xs tp cp mp iv ar la pA pB) H locs → W p l e (rmO 2 44) s m args below meth c H locs 0 0 (MQ below (ctQ D cI cJ (wC cI cJ oc ac pa pb aa ab xp xs tp cp mp ivz arz laz pAz pBz) A rz) args s 0 0 A) (F0 m 20 ls [.int s0]) := by
  intro l1 l2 l3 l4 s0 iv ar la pA pB rz ivz arz laz pAz pBz hm H locs ls hl hw
  have hx := C.1.1
  have hb := C.1.2.1
  unfold mX0_joinTop_J20 at hm
  refine lv_istore (lv' := [(5, .int s0), (0, .ref (oc 0)), (1, .int l1), (2, .int l2), (3, .int l3), (4, .int l4)]) hx hb dX0_joinTop_20 hl (by decide) rfl (fun ls hl => ?_)
  refine lv_aload_n hx hb dX0_joinTop_22 rfl (lv_at hl 1 rfl) ?_
  refine g_get C hw gC0_0 dX0_joinTop_23 ?_
  refine lv_iload_n hx hb dX0_joinTop_26 rfl (lv_at hl 3 rfl) ?_
  obtain ⟨r27, iv27, ar27, la27, pA27, pB27, hc27, hm⟩ := obc_some hm
  refine g_calli (As := [.int l2]) (rest := []) C hw (kX3_kindOf hc27) mtX3_kindOf lkX0_64 oC3 hl.1 rfl rfl (Nat.le_of_ble_eq_true rfl) ⟨Nat.le_of_ble_eq_true rfl, Nat.le_of_ble_eq_true rfl⟩ dX0_joinTop_27 ⟨Nat.zero_le _, Nat.zero_le _⟩ (fun H locs hw => ?_)
  refine lv_istore (lv' := [(6, .int r27), (5, .int s0), (0, .ref (oc 0)), (1, .int l1), (2, .int l2), (3, .int l3), (4, .int l4)]) hx hb dX0_joinTop_30 hl (by decide) rfl (fun ls hl => ?_)
  refine lv_aload_n hx hb dX0_joinTop_32 rfl (lv_at hl 2 rfl) ?_
  refine g_get C hw gC0_0 dX0_joinTop_33 ?_
  refine lv_iload_n hx hb dX0_joinTop_36 rfl (lv_at hl 5 rfl) ?_
  obtain ⟨r37, iv37, ar37, la37, pA37, pB37, hc37, hm⟩ := obc_some hm
  refine g_calli (As := [.int l3]) (rest := []) C hw (kX3_kindOf hc37) mtX3_kindOf lkX0_64 oC3 hl.1 rfl rfl (Nat.le_of_ble_eq_true rfl) ⟨Nat.le_of_ble_eq_true rfl, Nat.le_of_ble_eq_true rfl⟩ dX0_joinTop_37 ⟨Nat.zero_le _, Nat.zero_le _⟩ (fun H locs hw => ?_)
  refine lv_istore (lv' := [(7, .int r37), (6, .int r27), (5, .int s0), (0, .ref (oc 0)), (1, .int l1), (2, .int l2), (3, .int l3), (4, .int l4)]) hx hb dX0_joinTop_40 hl (by decide) rfl (fun ls hl => ?_)
  refine lv_iload_n hx hb dX0_joinTop_42 rfl (lv_at hl 5 rfl) ?_
  refine lv_iload_n hx hb dX0_joinTop_43 rfl (lv_at hl 6 rfl) ?_
  refine lv_icmp_ne (tgt := 49) hx hb dX0_joinTop_44 (by decide) (fun hc => ?_) (fun hc => ?_)
  · have hm := it_f hc hm
    refine lv_iload hx hb dX0_joinTop_49 (lv_at hl 1 rfl) ?_
    refine lv_iload hx hb dX0_joinTop_51 (lv_at hl 7 rfl) ?_
    refine lv_icmp_eq (tgt := 63) hx hb dX0_joinTop_53 (by decide) (fun hc => ?_) (fun hc => ?_)
    · have hm := it_t hc hm
      exact wX0_joinTop_J63 C _ _ _ _ _ _ _ _ _ _ _ _ _ _ _ hm _ _ _ (lv_sub hl [5, 6, 7, 1] rfl) hw
    · have hm := it_f hc hm
      refine lv_iload hx hb dX0_joinTop_56 (lv_at hl 0 rfl) ?_
      refine lv_iload hx hb dX0_joinTop_58 (lv_at hl 7 rfl) ?_
      refine lv_icmp_ne (tgt := 76) hx hb dX0_joinTop_60 (by decide) (fun hc => ?_) (fun hc => ?_)
      · have hm := it_f hc hm
        refine lv_iload hx hb dX0_joinTop_76 (lv_at hl 1 rfl) ?_
        refine lv_iload hx hb dX0_joinTop_78 (lv_at hl 2 rfl) ?_
        refine lv_icmp_eq (tgt := 90) hx hb dX0_joinTop_80 (by decide) (fun hc => ?_) (fun hc => ?_)
        · have hm := it_t hc hm
          exact wX0_joinTop_J90 C _ _ _ _ _ _ _ _ _ _ _ _ _ _ _ hm _ _ _ (lv_sub hl [5, 6, 2, 1] rfl) hw
        · have hm := it_f hc hm
          refine lv_iload hx hb dX0_joinTop_83 (lv_at hl 0 rfl) ?_
          refine lv_iload hx hb dX0_joinTop_85 (lv_at hl 2 rfl) ?_
          refine lv_icmp_ne (tgt := 103) hx hb dX0_joinTop_87 (by decide) (fun hc => ?_) (fun hc => ?_)
          · have hm := it_f hc hm
            refine lv_iload hx hb dX0_joinTop_103 (lv_at hl 1 rfl) ?_
            refine lv_iload hx hb dX0_joinTop_105 (lv_at hl 0 rfl) ?_
            refine lv_icmp_ne (tgt := 124) hx hb dX0_joinTop_107 (by decide) (fun hc => ?_) (fun hc => ?_)
            · have hm := it_f hc hm
              exact wX0_joinTop_J124 C _ _ _ _ _ _ _ _ _ _ _ _ _ _ _ _ _ hm _ _ _ (lv_sub hl [3, 4, 5, 6, 2, 1, 0] rfl) hw
            · have hm := it_t hc hm
              refine lv_iload hx hb dX0_joinTop_110 (lv_at hl 1 rfl) ?_
              refine lv_iconst (v := 2) hx hb dX0_joinTop_112 ci_2 ?_
              refine lv_icmp_eq (tgt := 122) hx hb dX0_joinTop_113 (by decide) (fun hc => ?_) (fun hc => ?_)
              · have hm := it_t hc hm
                refine lv_iload_n hx hb dX0_joinTop_122 rfl (lv_at hl 5 rfl) ?_
                cases hm
                exact g_iret C hw dX0_joinTop_123
              · have hm := it_f hc hm
                refine lv_iload hx hb dX0_joinTop_116 (lv_at hl 1 rfl) ?_
                refine lv_iconst (v := 3) hx hb dX0_joinTop_118 ci_3 ?_
                refine lv_icmp_ne (tgt := 124) hx hb dX0_joinTop_119 (by decide) (fun hc => ?_) (fun hc => ?_)
                · have hm := it_f hc hm
                  exact wX0_joinTop_J124 C _ _ _ _ _ _ _ _ _ _ _ _ _ _ _ _ _ hm _ _ _ (lv_sub hl [3, 4, 5, 6, 2, 1, 0] rfl) hw
                · have hm := it_t hc hm
                  refine lv_iload_n hx hb dX0_joinTop_122 rfl (lv_at hl 5 rfl) ?_
                  cases hm
                  exact g_iret C hw dX0_joinTop_123
          · have hm := it_t hc hm
            exact wX0_joinTop_J90 C _ _ _ _ _ _ _ _ _ _ _ _ _ _ _ hm _ _ _ (lv_sub hl [5, 6, 2, 1] rfl) hw
      · have hm := it_t hc hm
        exact wX0_joinTop_J63 C _ _ _ _ _ _ _ _ _ _ _ _ _ _ _ hm _ _ _ (lv_sub hl [5, 6, 7, 1] rfl) hw
  · have hm := it_t hc hm
    refine lv_iload_n hx hb dX0_joinTop_47 rfl (lv_at hl 5 rfl) ?_
    cases hm
    exact g_iret C hw dX0_joinTop_48
def mX0_joinTop_J9 (l1 : Int32) (l2 : Int32) (l3 : Int32) (s0 : Int32) (iv : mI) (ar : mA) (la : mL) (pA : mA) (pB : mA) : Option (Int32 × mI × mA × mL × mA × mA) := if l1 = 0 then mX0_joinTop_J20 l1 l2 l3 s0 0 iv ar la pA pB else mX0_joinTop_J20 l1 l2 l3 s0 1 iv ar la pA pB
set_option maxRecDepth 100000 in
set_option maxHeartbeats 4000000 in
theorem wX0_joinTop_J9 (C : mCx p s m args meth c RX0 cX0_joinTop 10 (some .int) D cI cJ A) : ∀ (l1 : Int32) (l2 : Int32) (l3 : Int32) (s0 : Int32) (iv : mI) (ar : mA) (la : mL) (pA : mA) (pB : mA) (rz : Int32) (ivz : mI) (arz : mA) (laz : mL) (pAz : mA) (pBz : mA), mX0_joinTop_J9 l1 l2 l3 s0 iv ar la pA pB = some (rz, ivz, arz, laz, pAz, pBz) → ∀ (H : Heap) (locs : List Loc) (ls : Array Slot), lv_has ls 10 [(0, .ref (oc 0)), (1, .int l1), (2, .int l2), (3, .int l3)] → inW D A s (wC cI cJ oc ac pa pb aa ab xp xs tp cp mp iv ar la pA pB) H locs → W p l e (rmO 2 44) s m args below meth c H locs 0 0 (MQ below (ctQ D cI cJ (wC cI cJ oc ac pa pb aa ab xp xs tp cp mp ivz arz laz pAz pBz) A rz) args s 0 0 A) (F0 m 9 ls [.int s0]) := by
  intro l1 l2 l3 s0 iv ar la pA pB rz ivz arz laz pAz pBz hm H locs ls hl hw
  have hx := C.1.1
  have hb := C.1.2.1
  unfold mX0_joinTop_J9 at hm
  refine lv_istore (lv' := [(4, .int s0), (0, .ref (oc 0)), (1, .int l1), (2, .int l2), (3, .int l3)]) hx hb dX0_joinTop_9 hl (by decide) rfl (fun ls hl => ?_)
  refine lv_iload_n hx hb dX0_joinTop_11 rfl (lv_at hl 2 rfl) ?_
  refine lv_if_ne (tgt := 19) hx hb dX0_joinTop_12 (by decide) (fun hc => ?_) (fun hc => ?_)
  · have hm := it_f hc hm
    refine lv_iconst (v := 1) hx hb dX0_joinTop_19 ci_1 ?_
    exact wX0_joinTop_J20 C _ _ _ _ _ _ _ _ _ _ _ _ _ _ _ _ hm _ _ _ (lv_sub hl [1, 2, 3, 4, 0] rfl) hw
  · have hm := it_t hc hm
    refine lv_iconst (v := 0) hx hb dX0_joinTop_15 ci_0 ?_
    refine lv_goto (tgt := 20) hx hb dX0_joinTop_16 (by decide) ?_
    exact wX0_joinTop_J20 C _ _ _ _ _ _ _ _ _ _ _ _ _ _ _ _ hm _ _ _ (lv_sub hl [1, 2, 3, 4, 0] rfl) hw
def mX0_joinTop (a1 : Int32) (a2 : Int32) (a3 : Int32) (iv : mI) (ar : mA) (la : mL) (pA : mA) (pB : mA) : Option (Int32 × mI × mA × mL × mA × mA) := if a1 = 0 then mX0_joinTop_J9 a1 a2 a3 1 iv ar la pA pB else mX0_joinTop_J9 a1 a2 a3 0 iv ar la pA pB
set_option maxRecDepth 100000 in
set_option maxHeartbeats 4000000 in
theorem kX0_joinTop {a1 a2 a3 : Int32} {iv ivz : mI} {ar arz : mA} {la laz : mL} {pA pAz : mA} {pB pBz : mA} {rz : Int32} (hm : mX0_joinTop a1 a2 a3 iv ar la pA pB = some (rz, ivz, arz, laz, pAz, pBz)) : Ct l D cI cJ yX0_joinTop cX0_joinTop 10 (some .int) 2 44 [.ref (oc 0), .int a1, .int a2, .int a3] (wC cI cJ oc ac pa pb aa ab xp xs tp cp mp iv ar la pA pB) (wC cI cJ oc ac pa pb aa ab xp xs tp cp mp ivz arz laz pAz pBz) rz := by
  intro sz
  refine ct_of (by decide) (Nat.le_of_ble_eq_true rfl) ?_
  intro p e s m args below meth c C hw ls hl
  have hl : lv_has ls 10 [(0, .ref (oc 0)), (1, .int a1), (2, .int a2), (3, .int a3)] := hl
  have hx := C.1.1
  have hb := C.1.2.1
  unfold mX0_joinTop at hm
  refine lv_iload_n hx hb dX0_joinTop_0 rfl (lv_at hl 1 rfl) ?_
  refine lv_if_ne (tgt := 8) hx hb dX0_joinTop_1 (by decide) (fun hc => ?_) (fun hc => ?_)
  · have hm := it_f hc hm
    refine lv_iconst (v := 0) hx hb dX0_joinTop_8 ci_0 ?_
    exact wX0_joinTop_J9 C _ _ _ _ _ _ _ _ _ _ _ _ _ _ _ hm _ _ _ (lv_sub hl [0, 1, 2, 3] rfl) hw
  · have hm := it_t hc hm
    refine lv_iconst (v := 1) hx hb dX0_joinTop_4 ci_1 ?_
    refine lv_goto (tgt := 9) hx hb dX0_joinTop_5 (by decide) ?_
    exact wX0_joinTop_J9 C _ _ _ _ _ _ _ _ _ _ _ _ _ _ _ hm _ _ _ (lv_sub hl [0, 1, 2, 3] rfl) hw
def mX0_keyOf (a1 : Int32) (iv : mI) (ar : mA) (la : mL) (pA : mA) (pB : mA) : Option (Int32 × mI × mA × mL × mA × mA) := if a1 < 0 then some (0, iv, ar, la, pA, pB) else if 200 ≤ a1 then some (0, iv, ar, la, pA, pB) else if a1 < 0 ∨ 200 ≤ a1.toNatClampNeg then none else some ((ar 1 a1.toNatClampNeg), iv, ar, la, pA, pB)
set_option maxRecDepth 100000 in
set_option maxHeartbeats 4000000 in
theorem kX0_keyOf {a1 : Int32} {iv ivz : mI} {ar arz : mA} {la laz : mL} {pA pAz : mA} {pB pBz : mA} {rz : Int32} (hm : mX0_keyOf a1 iv ar la pA pB = some (rz, ivz, arz, laz, pAz, pBz)) : Ct l D cI cJ yX0_keyOf cX0_keyOf 2 (some .int) 0 0 [.ref (oc 0), .int a1] (wC cI cJ oc ac pa pb aa ab xp xs tp cp mp iv ar la pA pB) (wC cI cJ oc ac pa pb aa ab xp xs tp cp mp ivz arz laz pAz pBz) rz := by
  intro sz
  refine ct_of (by decide) (Nat.le_of_ble_eq_true rfl) ?_
  intro p e s m args below meth c C hw ls hl
  have hl : lv_has ls 2 [(0, .ref (oc 0)), (1, .int a1)] := hl
  have hx := C.1.1
  have hb := C.1.2.1
  unfold mX0_keyOf at hm
  refine lv_iload_n hx hb dX0_keyOf_0 rfl (lv_at hl 1 rfl) ?_
  refine lv_if_lt (tgt := 20) hx hb dX0_keyOf_1 (by decide) (fun hc => ?_) (fun hc => ?_)
  · have hm := it_t hc hm
    refine lv_iconst (v := 0) hx hb dX0_keyOf_20 ci_0 ?_
    cases hm
    exact g_iret C hw dX0_keyOf_21
  · have hm := it_f hc hm
    refine lv_iload_n hx hb dX0_keyOf_4 rfl (lv_at hl 1 rfl) ?_
    refine lv_sipush (v := 200) hx hb dX0_keyOf_5 cs_200 ?_
    refine lv_icmp_ge (tgt := 20) hx hb dX0_keyOf_8 (by decide) (fun hc => ?_) (fun hc => ?_)
    · have hm := it_t hc hm
      refine lv_iconst (v := 0) hx hb dX0_keyOf_20 ci_0 ?_
      cases hm
      exact g_iret C hw dX0_keyOf_21
    · have hm := it_f hc hm
      refine lv_aload_n hx hb dX0_keyOf_11 rfl (lv_at hl 0 rfl) ?_
      refine g_get C hw gC0_1 dX0_keyOf_12 ?_
      refine lv_iload_n hx hb dX0_keyOf_15 rfl (lv_at hl 1 rfl) ?_
      obtain ⟨hi, hm⟩ := it_a hm
      refine g_ald C hw aC0_1 hi dX0_keyOf_16 ?_
      refine lv_goto (tgt := 21) hx hb dX0_keyOf_17 (by decide) ?_
      cases hm
      exact g_iret C hw dX0_keyOf_21
def mX0_howOfPart_J30 (l3 : Int32) (s0 : Int32) (iv : mI) (ar : mA) (la : mL) (pA : mA) (pB : mA) : Option (Int32 × mI × mA × mL × mA × mA) := if s0 = 0 then some (l3, iv, ar, la, pA, pB) else some ((1 - l3), iv, ar, la, pA, pB)
set_option maxRecDepth 100000 in
set_option maxHeartbeats 4000000 in
theorem wX0_howOfPart_J30 (C : mCx p s m args meth c RX0 cX0_howOfPart 5 (some .int) D cI cJ A) : ∀ (l3 : Int32) (s0 : Int32) (iv : mI) (ar : mA) (la : mL) (pA : mA) (pB : mA) (rz : Int32) (ivz : mI) (arz : mA) (laz : mL) (pAz : mA) (pBz : mA), mX0_howOfPart_J30 l3 s0 iv ar la pA pB = some (rz, ivz, arz, laz, pAz, pBz) → ∀ (H : Heap) (locs : List Loc) (ls : Array Slot), lv_has ls 5 [(3, .int l3)] → inW D A s (wC cI cJ oc ac pa pb aa ab xp xs tp cp mp iv ar la pA pB) H locs → W p l e (rmO 1 21) s m args below meth c H locs 0 0 (MQ below (ctQ D cI cJ (wC cI cJ oc ac pa pb aa ab xp xs tp cp mp ivz arz laz pAz pBz) A rz) args s 0 0 A) (F0 m 30 ls [.int s0]) := by
  intro l3 s0 iv ar la pA pB rz ivz arz laz pAz pBz hm H locs ls hl hw
  have hx := C.1.1
  have hb := C.1.2.1
  unfold mX0_howOfPart_J30 at hm
  refine lv_istore (lv' := [(4, .int s0), (3, .int l3)]) hx hb dX0_howOfPart_30 hl (by decide) rfl (fun ls hl => ?_)
  refine lv_iload hx hb dX0_howOfPart_32 (lv_at hl 0 rfl) ?_
  refine lv_if_eq (tgt := 43) hx hb dX0_howOfPart_34 (by decide) (fun hc => ?_) (fun hc => ?_)
  · have hm := it_t hc hm
    refine lv_iload_n hx hb dX0_howOfPart_43 rfl (lv_at hl 1 rfl) ?_
    cases hm
    exact g_iret C hw dX0_howOfPart_44
  · have hm := it_f hc hm
    refine lv_iconst (v := 1) hx hb dX0_howOfPart_37 ci_1 ?_
    refine lv_iload_n hx hb dX0_howOfPart_38 rfl (lv_at hl 1 rfl) ?_
    refine lv_isub hx hb dX0_howOfPart_39 ?_
    refine lv_goto (tgt := 44) hx hb dX0_howOfPart_40 (by decide) ?_
    cases hm
    exact g_iret C hw dX0_howOfPart_44
def mX0_howOfPart (a1 : Int32) (a2 : Int32) (iv : mI) (ar : mA) (la : mL) (pA : mA) (pB : mA) : Option (Int32 × mI × mA × mL × mA × mA) := obc (mX0_keyOf a1 iv ar la pA pB) (fun r2 iv2 ar2 la2 pA2 pB2 => obc (mX3_kindOf a1 iv2 ar2 la2 pA2 pB2) (fun r14 iv14 ar14 la14 pA14 pB14 => if r14 = 4 then if a2 = 0 then mX0_howOfPart_J30 (r2 >>> (16 &&& 31)) 1 iv14 ar14 la14 pA14 pB14 else mX0_howOfPart_J30 (r2 >>> (16 &&& 31)) 0 iv14 ar14 la14 pA14 pB14 else mX0_howOfPart_J30 (r2 >>> (16 &&& 31)) 0 iv14 ar14 la14 pA14 pB14))
set_option maxRecDepth 100000 in
set_option maxHeartbeats 4000000 in
theorem kX0_howOfPart {a1 a2 : Int32} {iv ivz : mI} {ar arz : mA} {la laz : mL} {pA pAz : mA} {pB pBz : mA} {rz : Int32} (hm : mX0_howOfPart a1 a2 iv ar la pA pB = some (rz, ivz, arz, laz, pAz, pBz)) : Ct l D cI cJ yX0_howOfPart cX0_howOfPart 5 (some .int) 1 21 [.ref (oc 0), .int a1, .int a2] (wC cI cJ oc ac pa pb aa ab xp xs tp cp mp iv ar la pA pB) (wC cI cJ oc ac pa pb aa ab xp xs tp cp mp ivz arz laz pAz pBz) rz := by
  intro sz
  refine ct_of (by decide) (Nat.le_of_ble_eq_true rfl) ?_
  intro p e s m args below meth c C hw ls hl
  have hl : lv_has ls 5 [(0, .ref (oc 0)), (1, .int a1), (2, .int a2)] := hl
  have hx := C.1.1
  have hb := C.1.2.1
  unfold mX0_howOfPart at hm
  refine lv_aload_n hx hb dX0_howOfPart_0 rfl (lv_at hl 0 rfl) ?_
  refine lv_iload_n hx hb dX0_howOfPart_1 rfl (lv_at hl 1 rfl) ?_
  obtain ⟨r2, iv2, ar2, la2, pA2, pB2, hc2, hm⟩ := obc_some hm
  refine g_calli (As := [.int a1]) (rest := []) C hw (kX0_keyOf hc2) mtX0_keyOf lkX0_42 oC0 hl.1 rfl rfl (Nat.le_of_ble_eq_true rfl) ⟨Nat.le_of_ble_eq_true rfl, Nat.le_of_ble_eq_true rfl⟩ dX0_howOfPart_2 ⟨Nat.zero_le _, Nat.zero_le _⟩ (fun H locs hw => ?_)
  refine lv_bipush (v := 16) hx hb dX0_howOfPart_5 cb_16 ?_
  refine lv_ishr hx hb dX0_howOfPart_7 ?_
  refine lv_istore_n (lv' := [(3, .int (r2 >>> (16 &&& 31))), (0, .ref (oc 0)), (1, .int a1), (2, .int a2)]) hx hb dX0_howOfPart_8 rfl hl (by decide) rfl (fun ls hl => ?_)
  refine lv_aload_n hx hb dX0_howOfPart_9 rfl (lv_at hl 1 rfl) ?_
  refine g_get C hw gC0_0 dX0_howOfPart_10 ?_
  refine lv_iload_n hx hb dX0_howOfPart_13 rfl (lv_at hl 2 rfl) ?_
  obtain ⟨r14, iv14, ar14, la14, pA14, pB14, hc14, hm⟩ := obc_some hm
  refine g_calli (As := [.int a1]) (rest := []) C hw (kX3_kindOf hc14) mtX3_kindOf lkX0_64 oC3 hl.1 rfl rfl (Nat.le_of_ble_eq_true rfl) ⟨Nat.le_of_ble_eq_true rfl, Nat.le_of_ble_eq_true rfl⟩ dX0_howOfPart_14 ⟨Nat.zero_le _, Nat.zero_le _⟩ (fun H locs hw => ?_)
  refine lv_iconst (v := 4) hx hb dX0_howOfPart_17 ci_4 ?_
  refine lv_icmp_ne (tgt := 29) hx hb dX0_howOfPart_18 (by decide) (fun hc => ?_) (fun hc => ?_)
  · have hm := it_f hc hm
    refine lv_iconst (v := 0) hx hb dX0_howOfPart_29 ci_0 ?_
    exact wX0_howOfPart_J30 C _ _ _ _ _ _ _ _ _ _ _ _ _ hm _ _ _ (lv_sub hl [0] rfl) hw
  · have hm := it_t hc hm
    refine lv_iload_n hx hb dX0_howOfPart_21 rfl (lv_at hl 3 rfl) ?_
    refine lv_if_ne (tgt := 29) hx hb dX0_howOfPart_22 (by decide) (fun hc => ?_) (fun hc => ?_)
    · have hm := it_f hc hm
      refine lv_iconst (v := 0) hx hb dX0_howOfPart_29 ci_0 ?_
      exact wX0_howOfPart_J30 C _ _ _ _ _ _ _ _ _ _ _ _ _ hm _ _ _ (lv_sub hl [0] rfl) hw
    · have hm := it_t hc hm
      refine lv_iconst (v := 1) hx hb dX0_howOfPart_25 ci_1 ?_
      refine lv_goto (tgt := 30) hx hb dX0_howOfPart_26 (by decide) ?_
      exact wX0_howOfPart_J30 C _ _ _ _ _ _ _ _ _ _ _ _ _ hm _ _ _ (lv_sub hl [0] rfl) hw
def mX0_lonePart_J36 (l2 : Int32) (l3 : Int32) (l4 : Int32) (s0 : Int32) (iv : mI) (ar : mA) (la : mL) (pA : mA) (pB : mA) : Option (Int32 × mI × mA × mL × mA × mA) := if l4 = s0 then if l2 = (-1) then some (l3, iv, ar, la, pA, pB) else some (l2, iv, ar, la, pA, pB) else some ((-1), iv, ar, la, pA, pB)
set_option maxRecDepth 100000 in
set_option maxHeartbeats 4000000 in
theorem wX0_lonePart_J36 (C : mCx p s m args meth c RX0 cX0_lonePart 6 (some .int) D cI cJ A) : ∀ (l2 : Int32) (l3 : Int32) (l4 : Int32) (s0 : Int32) (iv : mI) (ar : mA) (la : mL) (pA : mA) (pB : mA) (rz : Int32) (ivz : mI) (arz : mA) (laz : mL) (pAz : mA) (pBz : mA), mX0_lonePart_J36 l2 l3 l4 s0 iv ar la pA pB = some (rz, ivz, arz, laz, pAz, pBz) → ∀ (H : Heap) (locs : List Loc) (ls : Array Slot), lv_has ls 6 [(2, .int l2), (3, .int l3), (4, .int l4)] → inW D A s (wC cI cJ oc ac pa pb aa ab xp xs tp cp mp iv ar la pA pB) H locs → W p l e (rmO 1 21) s m args below meth c H locs 0 0 (MQ below (ctQ D cI cJ (wC cI cJ oc ac pa pb aa ab xp xs tp cp mp ivz arz laz pAz pBz) A rz) args s 0 0 A) (F0 m 36 ls [.int s0]) := by
  intro l2 l3 l4 s0 iv ar la pA pB rz ivz arz laz pAz pBz hm H locs ls hl hw
  have hx := C.1.1
  have hb := C.1.2.1
  unfold mX0_lonePart_J36 at hm
  refine lv_istore (lv' := [(5, .int s0), (2, .int l2), (3, .int l3), (4, .int l4)]) hx hb dX0_lonePart_36 hl (by decide) rfl (fun ls hl => ?_)
  refine lv_iload hx hb dX0_lonePart_38 (lv_at hl 3 rfl) ?_
  refine lv_iload hx hb dX0_lonePart_40 (lv_at hl 0 rfl) ?_
  refine lv_icmp_eq (tgt := 47) hx hb dX0_lonePart_42 (by decide) (fun hc => ?_) (fun hc => ?_)
  · have hm := it_t hc hm
    refine lv_iload_n hx hb dX0_lonePart_47 rfl (lv_at hl 1 rfl) ?_
    refine lv_iconst (v := (-1)) hx hb dX0_lonePart_48 ci_m1 ?_
    refine lv_icmp_eq (tgt := 56) hx hb dX0_lonePart_49 (by decide) (fun hc => ?_) (fun hc => ?_)
    · have hm := it_t hc hm
      refine lv_iload_n hx hb dX0_lonePart_56 rfl (lv_at hl 2 rfl) ?_
      cases hm
      exact g_iret C hw dX0_lonePart_57
    · have hm := it_f hc hm
      refine lv_iload_n hx hb dX0_lonePart_52 rfl (lv_at hl 1 rfl) ?_
      refine lv_goto (tgt := 57) hx hb dX0_lonePart_53 (by decide) ?_
      cases hm
      exact g_iret C hw dX0_lonePart_57
  · have hm := it_f hc hm
    refine lv_iconst (v := (-1)) hx hb dX0_lonePart_45 ci_m1 ?_
    cases hm
    exact g_iret C hw dX0_lonePart_46
def mX0_lonePart_J16 (l1 : Int32) (l2 : Int32) (l3 : Int32) (s0 : Int32) (iv : mI) (ar : mA) (la : mL) (pA : mA) (pB : mA) : Option (Int32 × mI × mA × mL × mA × mA) := obc (mX3_kindOf l1 iv ar la pA pB) (fun r23 iv23 ar23 la23 pA23 pB23 => if r23 = 6 then mX0_lonePart_J36 l2 l3 s0 1 iv23 ar23 la23 pA23 pB23 else mX0_lonePart_J36 l2 l3 s0 0 iv23 ar23 la23 pA23 pB23)
set_option maxRecDepth 100000 in
set_option maxHeartbeats 4000000 in
theorem wX0_lonePart_J16 (C : mCx p s m args meth c RX0 cX0_lonePart 6 (some .int) D cI cJ A) : ∀ (l1 : Int32) (l2 : Int32) (l3 : Int32) (s0 : Int32) (iv : mI) (ar : mA) (la : mL) (pA : mA) (pB : mA) (rz : Int32) (ivz : mI) (arz : mA) (laz : mL) (pAz : mA) (pBz : mA), mX0_lonePart_J16 l1 l2 l3 s0 iv ar la pA pB = some (rz, ivz, arz, laz, pAz, pBz) → ∀ (H : Heap) (locs : List Loc) (ls : Array Slot), lv_has ls 6 [(0, .ref (oc 0)), (1, .int l1), (2, .int l2), (3, .int l3)] → inW D A s (wC cI cJ oc ac pa pb aa ab xp xs tp cp mp iv ar la pA pB) H locs → W p l e (rmO 1 21) s m args below meth c H locs 0 0 (MQ below (ctQ D cI cJ (wC cI cJ oc ac pa pb aa ab xp xs tp cp mp ivz arz laz pAz pBz) A rz) args s 0 0 A) (F0 m 16 ls [.int s0]) := by
  intro l1 l2 l3 s0 iv ar la pA pB rz ivz arz laz pAz pBz hm H locs ls hl hw
  have hx := C.1.1
  have hb := C.1.2.1
  unfold mX0_lonePart_J16 at hm
  refine lv_istore (lv' := [(4, .int s0), (0, .ref (oc 0)), (1, .int l1), (2, .int l2), (3, .int l3)]) hx hb dX0_lonePart_16 hl (by decide) rfl (fun ls hl => ?_)
  refine lv_aload_n hx hb dX0_lonePart_18 rfl (lv_at hl 1 rfl) ?_
  refine g_get C hw gC0_0 dX0_lonePart_19 ?_
  refine lv_iload_n hx hb dX0_lonePart_22 rfl (lv_at hl 2 rfl) ?_
  obtain ⟨r23, iv23, ar23, la23, pA23, pB23, hc23, hm⟩ := obc_some hm
  refine g_calli (As := [.int l1]) (rest := []) C hw (kX3_kindOf hc23) mtX3_kindOf lkX0_64 oC3 hl.1 rfl rfl (Nat.le_of_ble_eq_true rfl) ⟨Nat.le_of_ble_eq_true rfl, Nat.le_of_ble_eq_true rfl⟩ dX0_lonePart_23 ⟨Nat.zero_le _, Nat.zero_le _⟩ (fun H locs hw => ?_)
  refine lv_bipush (v := 6) hx hb dX0_lonePart_26 cb_6 ?_
  refine lv_icmp_ne (tgt := 35) hx hb dX0_lonePart_28 (by decide) (fun hc => ?_) (fun hc => ?_)
  · have hm := it_f hc hm
    refine lv_iconst (v := 0) hx hb dX0_lonePart_35 ci_0 ?_
    exact wX0_lonePart_J36 C _ _ _ _ _ _ _ _ _ _ _ _ _ _ _ hm _ _ _ (lv_sub hl [3, 4, 0] rfl) hw
  · have hm := it_t hc hm
    refine lv_iconst (v := 1) hx hb dX0_lonePart_31 ci_1 ?_
    refine lv_goto (tgt := 36) hx hb dX0_lonePart_32 (by decide) ?_
    exact wX0_lonePart_J36 C _ _ _ _ _ _ _ _ _ _ _ _ _ _ _ hm _ _ _ (lv_sub hl [3, 4, 0] rfl) hw
def mX0_lonePart (a1 : Int32) (a2 : Int32) (a3 : Int32) (iv : mI) (ar : mA) (la : mL) (pA : mA) (pB : mA) : Option (Int32 × mI × mA × mL × mA × mA) := obc (mX0_keyOf a1 iv ar la pA pB) (fun r2 iv2 ar2 la2 pA2 pB2 => if (r2 >>> (16 &&& 31)) = 0 then mX0_lonePart_J16 a1 a2 a3 1 iv2 ar2 la2 pA2 pB2 else mX0_lonePart_J16 a1 a2 a3 0 iv2 ar2 la2 pA2 pB2)
set_option maxRecDepth 100000 in
set_option maxHeartbeats 4000000 in
theorem kX0_lonePart {a1 a2 a3 : Int32} {iv ivz : mI} {ar arz : mA} {la laz : mL} {pA pAz : mA} {pB pBz : mA} {rz : Int32} (hm : mX0_lonePart a1 a2 a3 iv ar la pA pB = some (rz, ivz, arz, laz, pAz, pBz)) : Ct l D cI cJ yX0_lonePart cX0_lonePart 6 (some .int) 1 21 [.ref (oc 0), .int a1, .int a2, .int a3] (wC cI cJ oc ac pa pb aa ab xp xs tp cp mp iv ar la pA pB) (wC cI cJ oc ac pa pb aa ab xp xs tp cp mp ivz arz laz pAz pBz) rz := by
  intro sz
  refine ct_of (by decide) (Nat.le_of_ble_eq_true rfl) ?_
  intro p e s m args below meth c C hw ls hl
  have hl : lv_has ls 6 [(0, .ref (oc 0)), (1, .int a1), (2, .int a2), (3, .int a3)] := hl
  have hx := C.1.1
  have hb := C.1.2.1
  unfold mX0_lonePart at hm
  refine lv_aload_n hx hb dX0_lonePart_0 rfl (lv_at hl 0 rfl) ?_
  refine lv_iload_n hx hb dX0_lonePart_1 rfl (lv_at hl 1 rfl) ?_
  obtain ⟨r2, iv2, ar2, la2, pA2, pB2, hc2, hm⟩ := obc_some hm
  refine g_calli (As := [.int a1]) (rest := []) C hw (kX0_keyOf hc2) mtX0_keyOf lkX0_42 oC0 hl.1 rfl rfl (Nat.le_of_ble_eq_true rfl) ⟨Nat.le_of_ble_eq_true rfl, Nat.le_of_ble_eq_true rfl⟩ dX0_lonePart_2 ⟨Nat.zero_le _, Nat.zero_le _⟩ (fun H locs hw => ?_)
  refine lv_bipush (v := 16) hx hb dX0_lonePart_5 cb_16 ?_
  refine lv_ishr hx hb dX0_lonePart_7 ?_
  refine lv_if_ne (tgt := 15) hx hb dX0_lonePart_8 (by decide) (fun hc => ?_) (fun hc => ?_)
  · have hm := it_f hc hm
    refine lv_iconst (v := 0) hx hb dX0_lonePart_15 ci_0 ?_
    exact wX0_lonePart_J16 C _ _ _ _ _ _ _ _ _ _ _ _ _ _ _ hm _ _ _ (lv_sub hl [0, 1, 2, 3] rfl) hw
  · have hm := it_t hc hm
    refine lv_iconst (v := 1) hx hb dX0_lonePart_11 ci_1 ?_
    refine lv_goto (tgt := 16) hx hb dX0_lonePart_12 (by decide) ?_
    exact wX0_lonePart_J16 C _ _ _ _ _ _ _ _ _ _ _ _ _ _ _ hm _ _ _ (lv_sub hl [0, 1, 2, 3] rfl) hw
def mX0_join_J219 (l4 : Int32) (l5 : Int32) (iv : mI) (ar : mA) (la : mL) (pA : mA) (pB : mA) : Option (Int32 × mI × mA × mL × mA × mA) := if l5 = (-3) then obc (mX3_cutTo (iv 5) iv ar la pA pB) (fun r234 iv234 ar234 la234 pA234 pB234 => some ((-3), iv234, ar234, la234, pA234, pB234)) else some (l4, iv, ar, la, pA, pB)
set_option maxRecDepth 100000 in
set_option maxHeartbeats 4000000 in
theorem wX0_join_J219 (C : mCx p s m args meth c RX0 cX0_join 12 (some .int) D cI cJ A) : ∀ (l4 : Int32) (l5 : Int32) (iv : mI) (ar : mA) (la : mL) (pA : mA) (pB : mA) (rz : Int32) (ivz : mI) (arz : mA) (laz : mL) (pAz : mA) (pBz : mA), mX0_join_J219 l4 l5 iv ar la pA pB = some (rz, ivz, arz, laz, pAz, pBz) → ∀ (H : Heap) (locs : List Loc) (ls : Array Slot), lv_has ls 12 [(0, .ref (oc 0)), (4, .int l4), (5, .int l5)] → inW D A s (wC cI cJ oc ac pa pb aa ab xp xs tp cp mp iv ar la pA pB) H locs → W p l e (rmO 3 73) s m args below meth c H locs 0 0 (MQ below (ctQ D cI cJ (wC cI cJ oc ac pa pb aa ab xp xs tp cp mp ivz arz laz pAz pBz) A rz) args s 0 0 A) (F0 m 219 ls []) := by
  intro l4 l5 iv ar la pA pB rz ivz arz laz pAz pBz hm H locs ls hl hw
  have hx := C.1.1
  have hb := C.1.2.1
  unfold mX0_join_J219 at hm
  refine lv_iload hx hb dX0_join_219 (lv_at hl 2 rfl) ?_
  refine lv_bipush (v := (-3)) hx hb dX0_join_221 cb_m3 ?_
  refine lv_icmp_ne (tgt := 240) hx hb dX0_join_223 (by decide) (fun hc => ?_) (fun hc => ?_)
  · have hm := it_f hc hm
    refine lv_iload hx hb dX0_join_240 (lv_at hl 1 rfl) ?_
    cases hm
    exact g_iret C hw dX0_join_242
  · have hm := it_t hc hm
    refine lv_aload_n hx hb dX0_join_226 rfl (lv_at hl 0 rfl) ?_
    refine g_get C hw gC0_0 dX0_join_227 ?_
    refine lv_aload_n hx hb dX0_join_230 rfl (lv_at hl 0 rfl) ?_
    refine g_get C hw gC0_5 dX0_join_231 ?_
    obtain ⟨r234, iv234, ar234, la234, pA234, pB234, hc234, hm⟩ := obc_some hm
    refine g_callv (As := [.int (iv 5)]) (rest := []) C hw (kX3_cutTo hc234) mtX3_cutTo lkX0_60 oC3 hl.1 rfl rfl (Nat.le_of_ble_eq_true rfl) ⟨Nat.le_of_ble_eq_true rfl, Nat.le_of_ble_eq_true rfl⟩ dX0_join_234 ⟨Nat.zero_le _, Nat.zero_le _⟩ (fun H locs hw => ?_)
    refine lv_bipush (v := (-3)) hx hb dX0_join_237 cb_m3 ?_
    cases hm
    exact g_iret C hw dX0_join_239
def mX0_join_J193 (k32 : Int32 → Int32 → Int32 → mI → mA → mL → mA → mA → Option (Int32 × mI × mA × mL × mA × mA)) (l4 : Int32) (l6 : Int32) (l8 : Int32) (l9 : Int32) (s0 : Int32) (iv : mI) (ar : mA) (la : mL) (pA : mA) (pB : mA) : Option (Int32 × mI × mA × mL × mA × mA) := if s0 < 0 then k32 l4 s0 (l6 + 1) iv ar la pA pB else obc (mX3_setPart l8 l9 s0 iv ar la pA pB) (fun r210 iv210 ar210 la210 pA210 pB210 => k32 l4 s0 (l6 + 1) iv210 ar210 la210 pA210 pB210)
set_option maxRecDepth 100000 in
set_option maxHeartbeats 4000000 in
theorem wX0_join_J193 {k32 : Int32 → Int32 → Int32 → mI → mA → mL → mA → mA → Option (Int32 × mI × mA × mL × mA × mA)} (C : mCx p s m args meth c RX0 cX0_join 12 (some .int) D cI cJ A) (hk32 : ∀ (l4 : Int32) (l5 : Int32) (l6 : Int32) (iv : mI) (ar : mA) (la : mL) (pA : mA) (pB : mA) (rz : Int32) (ivz : mI) (arz : mA) (laz : mL) (pAz : mA) (pBz : mA), k32 l4 l5 l6 iv ar la pA pB = some (rz, ivz, arz, laz, pAz, pBz) → ∀ (H : Heap) (locs : List Loc) (ls : Array Slot), lv_has ls 12 [(0, .ref (oc 0)), (4, .int l4), (5, .int l5), (6, .int l6)] → inW D A s (wC cI cJ oc ac pa pb aa ab xp xs tp cp mp iv ar la pA pB) H locs → W p l e (rmO 3 73) s m args below meth c H locs 0 0 (MQ below (ctQ D cI cJ (wC cI cJ oc ac pa pb aa ab xp xs tp cp mp ivz arz laz pAz pBz) A rz) args s 0 0 A) (F0 m 32 ls [])) : ∀ (l4 : Int32) (l6 : Int32) (l8 : Int32) (l9 : Int32) (s0 : Int32) (iv : mI) (ar : mA) (la : mL) (pA : mA) (pB : mA) (rz : Int32) (ivz : mI) (arz : mA) (laz : mL) (pAz : mA) (pBz : mA), mX0_join_J193 k32 l4 l6 l8 l9 s0 iv ar la pA pB = some (rz, ivz, arz, laz, pAz, pBz) → ∀ (H : Heap) (locs : List Loc) (ls : Array Slot), lv_has ls 12 [(0, .ref (oc 0)), (4, .int l4), (6, .int l6), (8, .int l8), (9, .int l9)] → inW D A s (wC cI cJ oc ac pa pb aa ab xp xs tp cp mp iv ar la pA pB) H locs → W p l e (rmO 3 73) s m args below meth c H locs 0 0 (MQ below (ctQ D cI cJ (wC cI cJ oc ac pa pb aa ab xp xs tp cp mp ivz arz laz pAz pBz) A rz) args s 0 0 A) (F0 m 193 ls [.int s0]) := by
  intro l4 l6 l8 l9 s0 iv ar la pA pB rz ivz arz laz pAz pBz hm H locs ls hl hw
  have hx := C.1.1
  have hb := C.1.2.1
  unfold mX0_join_J193 at hm
  refine lv_istore (lv' := [(5, .int s0), (0, .ref (oc 0)), (4, .int l4), (6, .int l6), (8, .int l8), (9, .int l9)]) hx hb dX0_join_193 hl (by decide) rfl (fun ls hl => ?_)
  refine lv_iload hx hb dX0_join_195 (lv_at hl 0 rfl) ?_
  refine lv_if_lt (tgt := 213) hx hb dX0_join_197 (by decide) (fun hc => ?_) (fun hc => ?_)
  · have hm := it_t hc hm
    refine lv_iinc (v := (l6 + 1)) (lv' := [(6, .int (l6 + 1)), (5, .int s0), (0, .ref (oc 0)), (4, .int l4), (8, .int l8), (9, .int l9)]) hx hb dX0_join_213 hl (k := 3) rfl (ii_ ci_1) (by decide) rfl (fun ls hl => ?_)
    refine lv_goto (tgt := 32) hx hb dX0_join_216 (by decide) ?_
    exact hk32 _ _ _ _ _ _ _ _ _ _ _ _ _ _ hm _ _ _ (lv_sub hl [2, 3, 1, 0] rfl) hw
  · have hm := it_f hc hm
    refine lv_aload_n hx hb dX0_join_200 rfl (lv_at hl 1 rfl) ?_
    refine g_get C hw gC0_0 dX0_join_201 ?_
    refine lv_iload hx hb dX0_join_204 (lv_at hl 4 rfl) ?_
    refine lv_iload hx hb dX0_join_206 (lv_at hl 5 rfl) ?_
    refine lv_iload hx hb dX0_join_208 (lv_at hl 0 rfl) ?_
    obtain ⟨r210, iv210, ar210, la210, pA210, pB210, hc210, hm⟩ := obc_some hm
    refine g_callv (As := [.int l8, .int l9, .int s0]) (rest := []) C hw (kX3_setPart hc210) mtX3_setPart lkX0_56 oC3 hl.1 rfl rfl (Nat.le_of_ble_eq_true rfl) ⟨Nat.le_of_ble_eq_true rfl, Nat.le_of_ble_eq_true rfl⟩ dX0_join_210 ⟨Nat.zero_le _, Nat.zero_le _⟩ (fun H locs hw => ?_)
    refine lv_iinc (v := (l6 + 1)) (lv' := [(6, .int (l6 + 1)), (5, .int s0), (0, .ref (oc 0)), (4, .int l4), (8, .int l8), (9, .int l9)]) hx hb dX0_join_213 hl (k := 3) rfl (ii_ ci_1) (by decide) rfl (fun ls hl => ?_)
    refine lv_goto (tgt := 32) hx hb dX0_join_216 (by decide) ?_
    exact hk32 _ _ _ _ _ _ _ _ _ _ _ _ _ _ hm _ _ _ (lv_sub hl [2, 3, 1, 0] rfl) hw
def mX0_join_L32 : Nat → Int32 → Int32 → Int32 → mI → mA → mL → mA → mA → Option (Int32 × mI × mA × mL × mA × mA)
  | 0, _, _, _, _, _, _, _, _ => none
  | n + 1, l4, l5, l6, iv, ar, la, pA, pB => if (iv 4) ≤ 0 then mX0_join_J219 l4 l5 iv ar la pA pB else if l5 = (-3) then mX0_join_J219 l4 l5 iv ar la pA pB else if 1800 ≤ l6 then mX0_join_J219 l4 l5 iv ar la pA pB else if ((iv 4) - 1) < 0 ∨ 200 ≤ ((iv 4) - 1).toNatClampNeg then none else if ((iv 4) - 1) < 0 ∨ 200 ≤ ((iv 4) - 1).toNatClampNeg then none else if (ar 3 ((iv 4) - 1).toNatClampNeg) < 8 then if ((iv 4) - 1) < 0 ∨ 200 ≤ ((iv 4) - 1).toNatClampNeg then none else if ((iv 4) - 1) < 0 ∨ 200 ≤ ((iv 4) - 1).toNatClampNeg then none else obc (mX0_keyOf (ar 2 ((iv 4) - 1).toNatClampNeg) iv (au ar 3 ((iv 4) - 1).toNatClampNeg ((ar 3 ((iv 4) - 1).toNatClampNeg) + 1)) la pA pB) (fun r114 iv114 ar114 la114 pA114 pB114 => obc (mX3_partOf ((r114 >>> (8 &&& 31)) &&& 255) (ar 3 ((iv 4) - 1).toNatClampNeg) iv114 ar114 la114 pA114 pB114) (fun r126 iv126 ar126 la126 pA126 pB126 => obc (mX0_keyOf (ar 2 ((iv 4) - 1).toNatClampNeg) iv126 ar126 la126 pA126 pB126) (fun r138 iv138 ar138 la138 pA138 pB138 => obc (mX3_partOf (r138 &&& 255) (ar 3 ((iv 4) - 1).toNatClampNeg) iv138 ar138 la138 pA138 pB138) (fun r147 iv147 ar147 la147 pA147 pB147 => if r126 = (-1) then obc (mX0_lonePart (ar 2 ((iv 4) - 1).toNatClampNeg) r126 r147 iv147 ar147 la147 pA147 pB147) (fun r190 iv190 ar190 la190 pA190 pB190 => mX0_join_J193 (mX0_join_L32 n) l4 l6 (ar 2 ((iv 4) - 1).toNatClampNeg) (ar 3 ((iv 4) - 1).toNatClampNeg) r190 iv190 ar190 la190 pA190 pB190) else if r147 = (-1) then obc (mX0_lonePart (ar 2 ((iv 4) - 1).toNatClampNeg) r126 r147 iv147 ar147 la147 pA147 pB147) (fun r190 iv190 ar190 la190 pA190 pB190 => mX0_join_J193 (mX0_join_L32 n) l4 l6 (ar 2 ((iv 4) - 1).toNatClampNeg) (ar 3 ((iv 4) - 1).toNatClampNeg) r190 iv190 ar190 la190 pA190 pB190) else obc (mX0_howOfPart (ar 2 ((iv 4) - 1).toNatClampNeg) (ar 3 ((iv 4) - 1).toNatClampNeg) iv147 ar147 la147 pA147 pB147) (fun r170 iv170 ar170 la170 pA170 pB170 => obc (mX0_joinTop r170 r126 r147 iv170 ar170 la170 pA170 pB170) (fun r177 iv177 ar177 la177 pA177 pB177 => mX0_join_J193 (mX0_join_L32 n) l4 l6 (ar 2 ((iv 4) - 1).toNatClampNeg) (ar 3 ((iv 4) - 1).toNatClampNeg) r177 iv177 ar177 la177 pA177 pB177)))))) else mX0_join_L32 n l4 l5 (l6 + 1) (va_up iv 4 ((iv 4) - 1)) ar la pA pB
set_option maxRecDepth 100000 in
set_option maxHeartbeats 4000000 in
theorem wX0_join_L32 (C : mCx p s m args meth c RX0 cX0_join 12 (some .int) D cI cJ A) (n : Nat) : ∀ (l4 : Int32) (l5 : Int32) (l6 : Int32) (iv : mI) (ar : mA) (la : mL) (pA : mA) (pB : mA) (rz : Int32) (ivz : mI) (arz : mA) (laz : mL) (pAz : mA) (pBz : mA), mX0_join_L32 n l4 l5 l6 iv ar la pA pB = some (rz, ivz, arz, laz, pAz, pBz) → ∀ (H : Heap) (locs : List Loc) (ls : Array Slot), lv_has ls 12 [(0, .ref (oc 0)), (4, .int l4), (5, .int l5), (6, .int l6)] → inW D A s (wC cI cJ oc ac pa pb aa ab xp xs tp cp mp iv ar la pA pB) H locs → W p l e (rmO 3 73) s m args below meth c H locs 0 0 (MQ below (ctQ D cI cJ (wC cI cJ oc ac pa pb aa ab xp xs tp cp mp ivz arz laz pAz pBz) A rz) args s 0 0 A) (F0 m 32 ls []) := by
  induction n with
  | zero =>
    intro l4 l5 l6 iv ar la pA pB rz ivz arz laz pAz pBz hm H locs ls hl hw
    have hm : (none : Option (Int32 × mI × mA × mL × mA × mA)) = some _ := hm
    cases hm
  | succ n ih =>
    intro l4 l5 l6 iv ar la pA pB rz ivz arz laz pAz pBz hm H locs ls hl hw
    have hx := C.1.1
    have hb := C.1.2.1
    unfold mX0_join_L32 at hm
    refine lv_aload_n hx hb dX0_join_32 rfl (lv_at hl 0 rfl) ?_
    refine g_get C hw gC0_4 dX0_join_33 ?_
    refine lv_if_le (tgt := 219) hx hb dX0_join_36 (by decide) (fun hc => ?_) (fun hc => ?_)
    · have hm := it_t hc hm
      exact wX0_join_J219 C _ _ _ _ _ _ _ _ _ _ _ _ _ hm _ _ _ (lv_sub hl [0, 1, 2] rfl) hw
    · have hm := it_f hc hm
      refine lv_iload hx hb dX0_join_39 (lv_at hl 2 rfl) ?_
      refine lv_bipush (v := (-3)) hx hb dX0_join_41 cb_m3 ?_
      refine lv_icmp_eq (tgt := 219) hx hb dX0_join_43 (by decide) (fun hc => ?_) (fun hc => ?_)
      · have hm := it_t hc hm
        exact wX0_join_J219 C _ _ _ _ _ _ _ _ _ _ _ _ _ hm _ _ _ (lv_sub hl [0, 1, 2] rfl) hw
      · have hm := it_f hc hm
        refine lv_iload hx hb dX0_join_46 (lv_at hl 3 rfl) ?_
        refine lv_sipush (v := 1800) hx hb dX0_join_48 cs_1800 ?_
        refine lv_icmp_ge (tgt := 219) hx hb dX0_join_51 (by decide) (fun hc => ?_) (fun hc => ?_)
        · have hm := it_t hc hm
          exact wX0_join_J219 C _ _ _ _ _ _ _ _ _ _ _ _ _ hm _ _ _ (lv_sub hl [0, 1, 2] rfl) hw
        · have hm := it_f hc hm
          refine lv_aload_n hx hb dX0_join_54 rfl (lv_at hl 0 rfl) ?_
          refine g_get C hw gC0_4 dX0_join_55 ?_
          refine lv_iconst (v := 1) hx hb dX0_join_58 ci_1 ?_
          refine lv_isub hx hb dX0_join_59 ?_
          refine lv_istore (lv' := [(7, .int ((iv 4) - 1)), (0, .ref (oc 0)), (4, .int l4), (5, .int l5), (6, .int l6)]) hx hb dX0_join_60 hl (by decide) rfl (fun ls hl => ?_)
          refine lv_aload_n hx hb dX0_join_62 rfl (lv_at hl 1 rfl) ?_
          refine g_get C hw gC0_2 dX0_join_63 ?_
          refine lv_iload hx hb dX0_join_66 (lv_at hl 0 rfl) ?_
          obtain ⟨hi, hm⟩ := it_a hm
          refine g_ald C hw aC0_2 hi dX0_join_68 ?_
          refine lv_istore (lv' := [(8, .int (ar 2 ((iv 4) - 1).toNatClampNeg)), (7, .int ((iv 4) - 1)), (0, .ref (oc 0)), (4, .int l4), (5, .int l5), (6, .int l6)]) hx hb dX0_join_69 hl (by decide) rfl (fun ls hl => ?_)
          refine lv_aload_n hx hb dX0_join_71 rfl (lv_at hl 2 rfl) ?_
          refine g_get C hw gC0_3 dX0_join_72 ?_
          refine lv_iload hx hb dX0_join_75 (lv_at hl 1 rfl) ?_
          obtain ⟨hi, hm⟩ := it_a hm
          refine g_ald C hw aC0_3 hi dX0_join_77 ?_
          refine lv_istore (lv' := [(9, .int (ar 3 ((iv 4) - 1).toNatClampNeg)), (8, .int (ar 2 ((iv 4) - 1).toNatClampNeg)), (7, .int ((iv 4) - 1)), (0, .ref (oc 0)), (4, .int l4), (5, .int l5), (6, .int l6)]) hx hb dX0_join_78 hl (by decide) rfl (fun ls hl => ?_)
          refine lv_iload hx hb dX0_join_80 (lv_at hl 0 rfl) ?_
          refine lv_bipush (v := 8) hx hb dX0_join_82 cb_8 ?_
          refine lv_icmp_lt (tgt := 96) hx hb dX0_join_84 (by decide) (fun hc => ?_) (fun hc => ?_)
          · have hm := it_t hc hm
            refine lv_aload_n hx hb dX0_join_96 rfl (lv_at hl 3 rfl) ?_
            refine g_get C hw gC0_3 dX0_join_97 ?_
            refine lv_iload hx hb dX0_join_100 (lv_at hl 2 rfl) ?_
            refine lv_dup2_11 hx hb dX0_join_102 rfl rfl ?_
            obtain ⟨hi, hm⟩ := it_a hm
            refine g_ald C hw aC0_3 hi dX0_join_103 ?_
            refine lv_iconst (v := 1) hx hb dX0_join_104 ci_1 ?_
            refine lv_iadd hx hb dX0_join_105 ?_
            obtain ⟨hi, hm⟩ := it_a hm
            refine g_ast C hw sC0_3 hi dX0_join_106 (fun H locs hw => ?_)
            refine lv_aload_n hx hb dX0_join_107 rfl (lv_at hl 3 rfl) ?_
            refine g_get C hw gC0_0 dX0_join_108 ?_
            refine lv_aload_n hx hb dX0_join_111 rfl (lv_at hl 3 rfl) ?_
            refine lv_iload hx hb dX0_join_112 (lv_at hl 1 rfl) ?_
            obtain ⟨r114, iv114, ar114, la114, pA114, pB114, hc114, hm⟩ := obc_some hm
            refine g_calli (As := [.int (ar 2 ((iv 4) - 1).toNatClampNeg)]) (rest := [.ref (oc 3)]) C hw (kX0_keyOf hc114) mtX0_keyOf lkX0_42 oC0 hl.1 rfl rfl (Nat.le_of_ble_eq_true rfl) ⟨Nat.le_of_ble_eq_true rfl, Nat.le_of_ble_eq_true rfl⟩ dX0_join_114 ⟨Nat.zero_le _, Nat.zero_le _⟩ (fun H locs hw => ?_)
            refine lv_bipush (v := 8) hx hb dX0_join_117 cb_8 ?_
            refine lv_ishr hx hb dX0_join_119 ?_
            refine lv_sipush (v := 255) hx hb dX0_join_120 cs_255 ?_
            refine lv_iand hx hb dX0_join_123 ?_
            refine lv_iload hx hb dX0_join_124 (lv_at hl 0 rfl) ?_
            obtain ⟨r126, iv126, ar126, la126, pA126, pB126, hc126, hm⟩ := obc_some hm
            refine g_calli (As := [.int ((r114 >>> (8 &&& 31)) &&& 255), .int (ar 3 ((iv 4) - 1).toNatClampNeg)]) (rest := []) C hw (kX3_partOf hc126) mtX3_partOf lkX0_46 oC3 hl.1 rfl rfl (Nat.le_of_ble_eq_true rfl) ⟨Nat.le_of_ble_eq_true rfl, Nat.le_of_ble_eq_true rfl⟩ dX0_join_126 ⟨Nat.zero_le _, Nat.zero_le _⟩ (fun H locs hw => ?_)
            refine lv_istore (lv' := [(10, .int r126), (9, .int (ar 3 ((iv 4) - 1).toNatClampNeg)), (8, .int (ar 2 ((iv 4) - 1).toNatClampNeg)), (7, .int ((iv 4) - 1)), (0, .ref (oc 0)), (4, .int l4), (5, .int l5), (6, .int l6)]) hx hb dX0_join_129 hl (by decide) rfl (fun ls hl => ?_)
            refine lv_aload_n hx hb dX0_join_131 rfl (lv_at hl 4 rfl) ?_
            refine g_get C hw gC0_0 dX0_join_132 ?_
            refine lv_aload_n hx hb dX0_join_135 rfl (lv_at hl 4 rfl) ?_
            refine lv_iload hx hb dX0_join_136 (lv_at hl 2 rfl) ?_
            obtain ⟨r138, iv138, ar138, la138, pA138, pB138, hc138, hm⟩ := obc_some hm
            refine g_calli (As := [.int (ar 2 ((iv 4) - 1).toNatClampNeg)]) (rest := [.ref (oc 3)]) C hw (kX0_keyOf hc138) mtX0_keyOf lkX0_42 oC0 hl.1 rfl rfl (Nat.le_of_ble_eq_true rfl) ⟨Nat.le_of_ble_eq_true rfl, Nat.le_of_ble_eq_true rfl⟩ dX0_join_138 ⟨Nat.zero_le _, Nat.zero_le _⟩ (fun H locs hw => ?_)
            refine lv_sipush (v := 255) hx hb dX0_join_141 cs_255 ?_
            refine lv_iand hx hb dX0_join_144 ?_
            refine lv_iload hx hb dX0_join_145 (lv_at hl 1 rfl) ?_
            obtain ⟨r147, iv147, ar147, la147, pA147, pB147, hc147, hm⟩ := obc_some hm
            refine g_calli (As := [.int (r138 &&& 255), .int (ar 3 ((iv 4) - 1).toNatClampNeg)]) (rest := []) C hw (kX3_partOf hc147) mtX3_partOf lkX0_46 oC3 hl.1 rfl rfl (Nat.le_of_ble_eq_true rfl) ⟨Nat.le_of_ble_eq_true rfl, Nat.le_of_ble_eq_true rfl⟩ dX0_join_147 ⟨Nat.zero_le _, Nat.zero_le _⟩ (fun H locs hw => ?_)
            refine lv_istore (lv' := [(11, .int r147), (10, .int r126), (9, .int (ar 3 ((iv 4) - 1).toNatClampNeg)), (8, .int (ar 2 ((iv 4) - 1).toNatClampNeg)), (7, .int ((iv 4) - 1)), (0, .ref (oc 0)), (4, .int l4), (5, .int l5), (6, .int l6)]) hx hb dX0_join_150 hl (by decide) rfl (fun ls hl => ?_)
            refine lv_iload hx hb dX0_join_152 (lv_at hl 1 rfl) ?_
            refine lv_iconst (v := (-1)) hx hb dX0_join_154 ci_m1 ?_
            refine lv_icmp_eq (tgt := 183) hx hb dX0_join_155 (by decide) (fun hc => ?_) (fun hc => ?_)
            · have hm := it_t hc hm
              refine lv_aload_n hx hb dX0_join_183 rfl (lv_at hl 5 rfl) ?_
              refine lv_iload hx hb dX0_join_184 (lv_at hl 3 rfl) ?_
              refine lv_iload hx hb dX0_join_186 (lv_at hl 1 rfl) ?_
              refine lv_iload hx hb dX0_join_188 (lv_at hl 0 rfl) ?_
              obtain ⟨r190, iv190, ar190, la190, pA190, pB190, hc190, hm⟩ := obc_some hm
              refine g_calli (As := [.int (ar 2 ((iv 4) - 1).toNatClampNeg), .int r126, .int r147]) (rest := []) C hw (kX0_lonePart hc190) mtX0_lonePart lkX0_53 oC0 hl.1 rfl rfl (Nat.le_of_ble_eq_true rfl) ⟨Nat.le_of_ble_eq_true rfl, Nat.le_of_ble_eq_true rfl⟩ dX0_join_190 ⟨Nat.zero_le _, Nat.zero_le _⟩ (fun H locs hw => ?_)
              exact wX0_join_J193 C ih _ _ _ _ _ _ _ _ _ _ _ _ _ _ _ _ hm _ _ _ (lv_sub hl [5, 6, 8, 3, 2] rfl) hw
            · have hm := it_f hc hm
              refine lv_iload hx hb dX0_join_158 (lv_at hl 0 rfl) ?_
              refine lv_iconst (v := (-1)) hx hb dX0_join_160 ci_m1 ?_
              refine lv_icmp_eq (tgt := 183) hx hb dX0_join_161 (by decide) (fun hc => ?_) (fun hc => ?_)
              · have hm := it_t hc hm
                refine lv_aload_n hx hb dX0_join_183 rfl (lv_at hl 5 rfl) ?_
                refine lv_iload hx hb dX0_join_184 (lv_at hl 3 rfl) ?_
                refine lv_iload hx hb dX0_join_186 (lv_at hl 1 rfl) ?_
                refine lv_iload hx hb dX0_join_188 (lv_at hl 0 rfl) ?_
                obtain ⟨r190, iv190, ar190, la190, pA190, pB190, hc190, hm⟩ := obc_some hm
                refine g_calli (As := [.int (ar 2 ((iv 4) - 1).toNatClampNeg), .int r126, .int r147]) (rest := []) C hw (kX0_lonePart hc190) mtX0_lonePart lkX0_53 oC0 hl.1 rfl rfl (Nat.le_of_ble_eq_true rfl) ⟨Nat.le_of_ble_eq_true rfl, Nat.le_of_ble_eq_true rfl⟩ dX0_join_190 ⟨Nat.zero_le _, Nat.zero_le _⟩ (fun H locs hw => ?_)
                exact wX0_join_J193 C ih _ _ _ _ _ _ _ _ _ _ _ _ _ _ _ _ hm _ _ _ (lv_sub hl [5, 6, 8, 3, 2] rfl) hw
              · have hm := it_f hc hm
                refine lv_aload_n hx hb dX0_join_164 rfl (lv_at hl 5 rfl) ?_
                refine lv_aload_n hx hb dX0_join_165 rfl (lv_at hl 5 rfl) ?_
                refine lv_iload hx hb dX0_join_166 (lv_at hl 3 rfl) ?_
                refine lv_iload hx hb dX0_join_168 (lv_at hl 2 rfl) ?_
                obtain ⟨r170, iv170, ar170, la170, pA170, pB170, hc170, hm⟩ := obc_some hm
                refine g_calli (As := [.int (ar 2 ((iv 4) - 1).toNatClampNeg), .int (ar 3 ((iv 4) - 1).toNatClampNeg)]) (rest := [.ref (oc 0)]) C hw (kX0_howOfPart hc170) mtX0_howOfPart lkX0_50 oC0 hl.1 rfl rfl (Nat.le_of_ble_eq_true rfl) ⟨Nat.le_of_ble_eq_true rfl, Nat.le_of_ble_eq_true rfl⟩ dX0_join_170 ⟨Nat.zero_le _, Nat.zero_le _⟩ (fun H locs hw => ?_)
                refine lv_iload hx hb dX0_join_173 (lv_at hl 1 rfl) ?_
                refine lv_iload hx hb dX0_join_175 (lv_at hl 0 rfl) ?_
                obtain ⟨r177, iv177, ar177, la177, pA177, pB177, hc177, hm⟩ := obc_some hm
                refine g_calli (As := [.int r170, .int r126, .int r147]) (rest := []) C hw (kX0_joinTop hc177) mtX0_joinTop lkX0_38 oC0 hl.1 rfl rfl (Nat.le_of_ble_eq_true rfl) ⟨Nat.le_of_ble_eq_true rfl, Nat.le_of_ble_eq_true rfl⟩ dX0_join_177 ⟨Nat.zero_le _, Nat.zero_le _⟩ (fun H locs hw => ?_)
                refine lv_goto (tgt := 193) hx hb dX0_join_180 (by decide) ?_
                exact wX0_join_J193 C ih _ _ _ _ _ _ _ _ _ _ _ _ _ _ _ _ hm _ _ _ (lv_sub hl [5, 6, 8, 3, 2] rfl) hw
          · have hm := it_f hc hm
            refine lv_aload_n hx hb dX0_join_87 rfl (lv_at hl 3 rfl) ?_
            refine lv_iload hx hb dX0_join_88 (lv_at hl 2 rfl) ?_
            refine g_put C hw pC0_4 dX0_join_90 (fun H locs hw => ?_)
            refine lv_goto (tgt := 213) hx hb dX0_join_93 (by decide) ?_
            refine lv_iinc (v := (l6 + 1)) (lv' := [(6, .int (l6 + 1)), (9, .int (ar 3 ((iv 4) - 1).toNatClampNeg)), (8, .int (ar 2 ((iv 4) - 1).toNatClampNeg)), (7, .int ((iv 4) - 1)), (0, .ref (oc 0)), (4, .int l4), (5, .int l5)]) hx hb dX0_join_213 hl (k := 6) rfl (ii_ ci_1) (by decide) rfl (fun ls hl => ?_)
            refine lv_goto (tgt := 32) hx hb dX0_join_216 (by decide) ?_
            exact ih _ _ _ _ _ _ _ _ _ _ _ _ _ _ hm _ _ _ (lv_sub hl [4, 5, 6, 0] rfl) hw
def mX0_join (a1 : Int32) (a2 : Int32) (a3 : Int32) (iv : mI) (ar : mA) (la : mL) (pA : mA) (pB : mA) : Option (Int32 × mI × mA × mL × mA × mA) := obc (mX3_size iv ar la pA pB) (fun r5 iv5 ar5 la5 pA5 pB5 => obc (mX0_joinTop a1 a2 a3 (va_up (va_up iv5 5 r5) 4 0) ar5 la5 pA5 pB5) (fun r20 iv20 ar20 la20 pA20 pB20 => mX0_join_L32 bigF r20 r20 0 iv20 ar20 la20 pA20 pB20))
set_option maxRecDepth 100000 in
set_option maxHeartbeats 4000000 in
theorem kX0_join {a1 a2 a3 : Int32} {iv ivz : mI} {ar arz : mA} {la laz : mL} {pA pAz : mA} {pB pBz : mA} {rz : Int32} (hm : mX0_join a1 a2 a3 iv ar la pA pB = some (rz, ivz, arz, laz, pAz, pBz)) : Ct l D cI cJ yX0_join cX0_join 12 (some .int) 3 73 [.ref (oc 0), .int a1, .int a2, .int a3] (wC cI cJ oc ac pa pb aa ab xp xs tp cp mp iv ar la pA pB) (wC cI cJ oc ac pa pb aa ab xp xs tp cp mp ivz arz laz pAz pBz) rz := by
  intro sz
  refine ct_of (by decide) (Nat.le_of_ble_eq_true rfl) ?_
  intro p e s m args below meth c C hw ls hl
  have hl : lv_has ls 12 [(0, .ref (oc 0)), (1, .int a1), (2, .int a2), (3, .int a3)] := hl
  have hx := C.1.1
  have hb := C.1.2.1
  unfold mX0_join at hm
  refine lv_aload_n hx hb dX0_join_0 rfl (lv_at hl 0 rfl) ?_
  refine lv_aload_n hx hb dX0_join_1 rfl (lv_at hl 0 rfl) ?_
  refine g_get C hw gC0_0 dX0_join_2 ?_
  obtain ⟨r5, iv5, ar5, la5, pA5, pB5, hc5, hm⟩ := obc_some hm
  refine g_calli (As := []) (rest := [.ref (oc 0)]) C hw (kX3_size hc5) mtX3_size lkX0_25 oC3 hl.1 rfl rfl (Nat.le_of_ble_eq_true rfl) ⟨Nat.le_of_ble_eq_true rfl, Nat.le_of_ble_eq_true rfl⟩ dX0_join_5 ⟨Nat.zero_le _, Nat.zero_le _⟩ (fun H locs hw => ?_)
  refine g_put C hw pC0_5 dX0_join_8 (fun H locs hw => ?_)
  refine lv_aload_n hx hb dX0_join_11 rfl (lv_at hl 0 rfl) ?_
  refine lv_iconst (v := 0) hx hb dX0_join_12 ci_0 ?_
  refine g_put C hw pC0_4 dX0_join_13 (fun H locs hw => ?_)
  refine lv_aload_n hx hb dX0_join_16 rfl (lv_at hl 0 rfl) ?_
  refine lv_iload_n hx hb dX0_join_17 rfl (lv_at hl 1 rfl) ?_
  refine lv_iload_n hx hb dX0_join_18 rfl (lv_at hl 2 rfl) ?_
  refine lv_iload_n hx hb dX0_join_19 rfl (lv_at hl 3 rfl) ?_
  obtain ⟨r20, iv20, ar20, la20, pA20, pB20, hc20, hm⟩ := obc_some hm
  refine g_calli (As := [.int a1, .int a2, .int a3]) (rest := []) C hw (kX0_joinTop hc20) mtX0_joinTop lkX0_38 oC0 hl.1 rfl rfl (Nat.le_of_ble_eq_true rfl) ⟨Nat.le_of_ble_eq_true rfl, Nat.le_of_ble_eq_true rfl⟩ dX0_join_20 ⟨Nat.zero_le _, Nat.zero_le _⟩ (fun H locs hw => ?_)
  refine lv_istore (lv' := [(4, .int r20), (0, .ref (oc 0)), (1, .int a1), (2, .int a2), (3, .int a3)]) hx hb dX0_join_23 hl (by decide) rfl (fun ls hl => ?_)
  refine lv_iload hx hb dX0_join_25 (lv_at hl 0 rfl) ?_
  refine lv_istore (lv' := [(5, .int r20), (4, .int r20), (0, .ref (oc 0)), (1, .int a1), (2, .int a2), (3, .int a3)]) hx hb dX0_join_27 hl (by decide) rfl (fun ls hl => ?_)
  refine lv_iconst (v := 0) hx hb dX0_join_29 ci_0 ?_
  refine lv_istore (lv' := [(6, .int 0), (5, .int r20), (4, .int r20), (0, .ref (oc 0)), (1, .int a1), (2, .int a2), (3, .int a3)]) hx hb dX0_join_30 hl (by decide) rfl (fun ls hl => ?_)
  exact wX0_join_L32 C bigF _ _ _ _ _ _ _ _ _ _ _ _ _ _ hm _ _ _ (lv_sub hl [3, 2, 1, 0] rfl) hw
end
