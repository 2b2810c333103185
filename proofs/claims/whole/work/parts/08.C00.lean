section
variable {l : Launch} {p : Program} {e : Env} {s : State} {m : MethodId} {args : Array Value} {below : List Frame} {meth : Method} {c : Code} {D : va_G} {cI cJ : ClassId} {A : Nat → Prop} {oc ac : Nat → Nat} {pa pb : Nat} {aa ab : Nat → Nat} {xp xs tp cp mp : Nat}
def mX3_size  (iv : mI) (ar : mA) (la : mL) (pA : mA) (pB : mA) : Option (Int32 × mI × mA × mL × mA × mA) := some ((iv 303), iv, ar, la, pA, pB)
set_option maxRecDepth 100000 in
set_option maxHeartbeats 4000000 in
theorem kX3_size {iv ivz : mI} {ar arz : mA} {la laz : mL} {pA pAz : mA} {pB pBz : mA} {rz : Int32} (hm : mX3_size iv ar la pA pB = some (rz, ivz, arz, laz, pAz, pBz)) : Ct l D cI cJ yX3_size cX3_size 1 (some .int) 0 0 [.ref (oc 3)] (wC cI cJ oc ac pa pb aa ab xp xs tp cp mp iv ar la pA pB) (wC cI cJ oc ac pa pb aa ab xp xs tp cp mp ivz arz laz pAz pBz) rz := by
  intro sz
  refine ct_of (by decide) (Nat.le_of_ble_eq_true rfl) ?_
  intro p e s m args below meth c C hw ls hl
  have hl : lv_has ls 1 [(0, .ref (oc 3))] := hl
  have hx := C.1.1
  have hb := C.1.2.1
  unfold mX3_size at hm
  refine lv_aload_n hx hb dX3_size_0 rfl (lv_at hl 0 rfl) ?_
  refine g_get C hw gC3_3 dX3_size_1 ?_
  cases hm
  exact g_iret C hw dX3_size_4
def mX3_cutTo (a1 : Int32) (iv : mI) (ar : mA) (la : mL) (pA : mA) (pB : mA) : Option (Int32 × mI × mA × mL × mA × mA) := if a1 < 0 then some (0, iv, ar, la, pA, pB) else if (iv 303) ≤ a1 then some (0, iv, ar, la, pA, pB) else some (0, va_up iv 303 a1, ar, la, pA, pB)
set_option maxRecDepth 100000 in
set_option maxHeartbeats 4000000 in
theorem kX3_cutTo {a1 : Int32} {iv ivz : mI} {ar arz : mA} {la laz : mL} {pA pAz : mA} {pB pBz : mA} {rz : Int32} (hm : mX3_cutTo a1 iv ar la pA pB = some (rz, ivz, arz, laz, pAz, pBz)) : CtV l D cI cJ yX3_cutTo cX3_cutTo 2 0 0 [.ref (oc 3), .int a1] (wC cI cJ oc ac pa pb aa ab xp xs tp cp mp iv ar la pA pB) (wC cI cJ oc ac pa pb aa ab xp xs tp cp mp ivz arz laz pAz pBz) := by
  intro sz
  refine ct_of (by decide) (Nat.le_of_ble_eq_true rfl) ?_
  intro p e s m args below meth c C hw ls hl
  have hl : lv_has ls 2 [(0, .ref (oc 3)), (1, .int a1)] := hl
  have hx := C.1.1
  have hb := C.1.2.1
  unfold mX3_cutTo at hm
  refine lv_iload_n hx hb dX3_cutTo_0 rfl (lv_at hl 1 rfl) ?_
  refine lv_if_lt (tgt := 17) hx hb dX3_cutTo_1 (by decide) (fun hc => ?_) (fun hc => ?_)
  · have hm := it_t hc hm
    cases hm
    exact g_vret C hw dX3_cutTo_17
  · have hm := it_f hc hm
    refine lv_iload_n hx hb dX3_cutTo_4 rfl (lv_at hl 1 rfl) ?_
    refine lv_aload_n hx hb dX3_cutTo_5 rfl (lv_at hl 0 rfl) ?_
    refine g_get C hw gC3_3 dX3_cutTo_6 ?_
    refine lv_icmp_ge (tgt := 17) hx hb dX3_cutTo_9 (by decide) (fun hc => ?_) (fun hc => ?_)
    · have hm := it_t hc hm
      cases hm
      exact g_vret C hw dX3_cutTo_17
    · have hm := it_f hc hm
      refine lv_aload_n hx hb dX3_cutTo_12 rfl (lv_at hl 0 rfl) ?_
      refine lv_iload_n hx hb dX3_cutTo_13 rfl (lv_at hl 1 rfl) ?_
      refine g_put C hw pC3_3 dX3_cutTo_14 (fun H locs hw => ?_)
      cases hm
      exact g_vret C hw dX3_cutTo_17
def mX10_empty  (iv : mI) (ar : mA) (la : mL) (pA : mA) (pB : mA) : Option (Int32 × mI × mA × mL × mA × mA) := some (0, va_up iv 1005 0, ar, la, pA, pB)
set_option maxRecDepth 100000 in
set_option maxHeartbeats 4000000 in
theorem kX10_empty {iv ivz : mI} {ar arz : mA} {la laz : mL} {pA pAz : mA} {pB pBz : mA} {rz : Int32} (hm : mX10_empty iv ar la pA pB = some (rz, ivz, arz, laz, pAz, pBz)) : CtV l D cI cJ yX10_empty cX10_empty 1 0 0 [.ref (oc 10)] (wC cI cJ oc ac pa pb aa ab xp xs tp cp mp iv ar la pA pB) (wC cI cJ oc ac pa pb aa ab xp xs tp cp mp ivz arz laz pAz pBz) := by
  intro sz
  refine ct_of (by decide) (Nat.le_of_ble_eq_true rfl) ?_
  intro p e s m args below meth c C hw ls hl
  have hl : lv_has ls 1 [(0, .ref (oc 10))] := hl
  have hx := C.1.1
  have hb := C.1.2.1
  unfold mX10_empty at hm
  refine lv_aload_n hx hb dX10_empty_0 rfl (lv_at hl 0 rfl) ?_
  refine lv_iconst (v := 0) hx hb dX10_empty_1 ci_0 ?_
  refine g_put C hw pC10_5 dX10_empty_2 (fun H locs hw => ?_)
  cases hm
  exact g_vret C hw dX10_empty_5
def mX1_empty  (iv : mI) (ar : mA) (la : mL) (pA : mA) (pB : mA) : Option (Int32 × mI × mA × mL × mA × mA) := some (0, va_up iv 102 0, ar, la, pA, pB)
set_option maxRecDepth 100000 in
set_option maxHeartbeats 4000000 in
theorem kX1_empty {iv ivz : mI} {ar arz : mA} {la laz : mL} {pA pAz : mA} {pB pBz : mA} {rz : Int32} (hm : mX1_empty iv ar la pA pB = some (rz, ivz, arz, laz, pAz, pBz)) : CtV l D cI cJ yX1_empty cX1_empty 1 0 0 [.ref (oc 1)] (wC cI cJ oc ac pa pb aa ab xp xs tp cp mp iv ar la pA pB) (wC cI cJ oc ac pa pb aa ab xp xs tp cp mp ivz arz laz pAz pBz) := by
  intro sz
  refine ct_of (by decide) (Nat.le_of_ble_eq_true rfl) ?_
  intro p e s m args below meth c C hw ls hl
  have hl : lv_has ls 1 [(0, .ref (oc 1))] := hl
  have hx := C.1.1
  have hb := C.1.2.1
  unfold mX1_empty at hm
  refine lv_aload_n hx hb dX1_empty_0 rfl (lv_at hl 0 rfl) ?_
  refine lv_iconst (v := 0) hx hb dX1_empty_1 ci_0 ?_
  refine g_put C hw pC1_2 dX1_empty_2 (fun H locs hw => ?_)
  cases hm
  exact g_vret C hw dX1_empty_5
def mX4_forget  (iv : mI) (ar : mA) (la : mL) (pA : mA) (pB : mA) : Option (Int32 × mI × mA × mL × mA × mA) := obc (mX10_empty iv ar la pA pB) (fun r4 iv4 ar4 la4 pA4 pB4 => obc (mX1_empty iv4 ar4 la4 pA4 pB4) (fun r11 iv11 ar11 la11 pA11 pB11 => some (0, va_up (va_up iv11 407 0) 408 0, ar11, la11, pA11, pB11)))
set_option maxRecDepth 100000 in
set_option maxHeartbeats 4000000 in
theorem kX4_forget {iv ivz : mI} {ar arz : mA} {la laz : mL} {pA pAz : mA} {pB pBz : mA} {rz : Int32} (hm : mX4_forget iv ar la pA pB = some (rz, ivz, arz, laz, pAz, pBz)) : CtV l D cI cJ yX4_forget cX4_forget 1 1 20 [.ref (oc 4)] (wC cI cJ oc ac pa pb aa ab xp xs tp cp mp iv ar la pA pB) (wC cI cJ oc ac pa pb aa ab xp xs tp cp mp ivz arz laz pAz pBz) := by
  intro sz
  refine ct_of (by decide) (Nat.le_of_ble_eq_true rfl) ?_
  intro p e s m args below meth c C hw ls hl
  have hl : lv_has ls 1 [(0, .ref (oc 4))] := hl
  have hx := C.1.1
  have hb := C.1.2.1
  unfold mX4_forget at hm
  refine lv_aload_n hx hb dX4_forget_0 rfl (lv_at hl 0 rfl) ?_
  refine g_get C hw gC4_0 dX4_forget_1 ?_
  obtain ⟨r4, iv4, ar4, la4, pA4, pB4, hc4, hm⟩ := obc_some hm
  refine g_callv (As := []) (rest := []) C hw (kX10_empty hc4) mtX10_empty lkX4_46 oC10 hl.1 rfl rfl (Nat.le_of_ble_eq_true rfl) ⟨Nat.le_of_ble_eq_true rfl, Nat.le_of_ble_eq_true rfl⟩ dX4_forget_4 ⟨Nat.zero_le _, Nat.zero_le _⟩ (fun H locs hw => ?_)
  refine lv_aload_n hx hb dX4_forget_7 rfl (lv_at hl 0 rfl) ?_
  refine g_get C hw gC4_1 dX4_forget_8 ?_
  obtain ⟨r11, iv11, ar11, la11, pA11, pB11, hc11, hm⟩ := obc_some hm
  refine g_callv (As := []) (rest := []) C hw (kX1_empty hc11) mtX1_empty lkX4_49 oC1 hl.1 rfl rfl (Nat.le_of_ble_eq_true rfl) ⟨Nat.le_of_ble_eq_true rfl, Nat.le_of_ble_eq_true rfl⟩ dX4_forget_11 ⟨Nat.zero_le _, Nat.zero_le _⟩ (fun H locs hw => ?_)
  refine lv_aload_n hx hb dX4_forget_14 rfl (lv_at hl 0 rfl) ?_
  refine lv_iconst (v := 0) hx hb dX4_forget_15 ci_0 ?_
  refine g_put C hw pC4_7 dX4_forget_16 (fun H locs hw => ?_)
  refine lv_aload_n hx hb dX4_forget_19 rfl (lv_at hl 0 rfl) ?_
  refine lv_iconst (v := 0) hx hb dX4_forget_20 ci_0 ?_
  refine g_put C hw pC4_8 dX4_forget_21 (fun H locs hw => ?_)
  cases hm
  exact g_vret C hw dX4_forget_24
def mX11_clear  (iv : mI) (ar : mA) (la : mL) (pA : mA) (pB : mA) : Option (Int32 × mI × mA × mL × mA × mA) := obc (mX3_size iv ar la pA pB) (fun r4 iv4 ar4 la4 pA4 pB4 => obc (mX3_cutTo 0 iv4 ar4 la4 pA4 pB4) (fun r13 iv13 ar13 la13 pA13 pB13 => obc (mX4_forget (va_up iv13 1110 0) ar13 la13 pA13 pB13) (fun r25 iv25 ar25 la25 pA25 pB25 => some (r4, iv25, ar25, la25, pA25, pB25))))
set_option maxRecDepth 100000 in
set_option maxHeartbeats 4000000 in
theorem kX11_clear {iv ivz : mI} {ar arz : mA} {la laz : mL} {pA pAz : mA} {pB pBz : mA} {rz : Int32} (hm : mX11_clear iv ar la pA pB = some (rz, ivz, arz, laz, pAz, pBz)) : Ct l D cI cJ yX11_clear cX11_clear 2 (some .int) 2 40 [.ref (oc 11)] (wC cI cJ oc ac pa pb aa ab pa pb tp cp mp iv ar la pA pB) (wC cI cJ oc ac pa pb aa ab pa pb tp cp mp ivz arz laz pAz pBz) rz := by
  intro sz
  refine ct_of (by decide) (Nat.le_of_ble_eq_true rfl) ?_
  intro p e s m args below meth c C hw ls hl
  have hl : lv_has ls 2 [(0, .ref (oc 11))] := hl
  have hx := C.1.1
  have hb := C.1.2.1
  unfold mX11_clear at hm
  refine lv_aload_n hx hb dX11_clear_0 rfl (lv_at hl 0 rfl) ?_
  refine g_get C hw gC11_1 dX11_clear_1 ?_
  obtain ⟨r4, iv4, ar4, la4, pA4, pB4, hc4, hm⟩ := obc_some hm
  refine g_calli (As := []) (rest := []) C hw (kX3_size hc4) mtX3_size lkX11_89 oC3 hl.1 rfl rfl (Nat.le_of_ble_eq_true rfl) ⟨Nat.le_of_ble_eq_true rfl, Nat.le_of_ble_eq_true rfl⟩ dX11_clear_4 ⟨Nat.zero_le _, Nat.zero_le _⟩ (fun H locs hw => ?_)
  refine lv_istore_n (lv' := [(1, .int r4), (0, .ref (oc 11))]) hx hb dX11_clear_7 rfl hl (by decide) rfl (fun ls hl => ?_)
  refine lv_aload_n hx hb dX11_clear_8 rfl (lv_at hl 1 rfl) ?_
  refine g_get C hw gC11_1 dX11_clear_9 ?_
  refine lv_iconst (v := 0) hx hb dX11_clear_12 ci_0 ?_
  obtain ⟨r13, iv13, ar13, la13, pA13, pB13, hc13, hm⟩ := obc_some hm
  refine g_callv (As := [.int 0]) (rest := []) C hw (kX3_cutTo hc13) mtX3_cutTo lkX11_93 oC3 hl.1 rfl rfl (Nat.le_of_ble_eq_true rfl) ⟨Nat.le_of_ble_eq_true rfl, Nat.le_of_ble_eq_true rfl⟩ dX11_clear_13 ⟨Nat.zero_le _, Nat.zero_le _⟩ (fun H locs hw => ?_)
  refine lv_aload_n hx hb dX11_clear_16 rfl (lv_at hl 1 rfl) ?_
  refine lv_iconst (v := 0) hx hb dX11_clear_17 ci_0 ?_
  refine g_put C hw pC11_10_0 dX11_clear_18 (fun H locs hw => ?_)
  refine lv_aload_n hx hb dX11_clear_21 rfl (lv_at hl 1 rfl) ?_
  refine g_get C hw gC11_9 dX11_clear_22 ?_
  obtain ⟨r25, iv25, ar25, la25, pA25, pB25, hc25, hm⟩ := obc_some hm
  refine g_callv (As := []) (rest := []) C hw (kX4_forget hc25) mtX4_forget lkX11_101 oC4 hl.1 rfl rfl (Nat.le_of_ble_eq_true rfl) ⟨Nat.le_of_ble_eq_true rfl, Nat.le_of_ble_eq_true rfl⟩ dX11_clear_25 ⟨Nat.zero_le _, Nat.zero_le _⟩ (fun H locs hw => ?_)
  refine lv_iload_n hx hb dX11_clear_28 rfl (lv_at hl 0 rfl) ?_
  cases hm
  exact g_iret C hw dX11_clear_29
def mX8_append (a1 : Int32) (iv : mI) (ar : mA) (la : mL) (pA : mA) (pB : mA) : Option (Int32 × mI × mA × mL × mA × mA) := if (iv 801) < 200 then if (iv 801) < 0 ∨ 200 ≤ (iv 801).toNatClampNeg then none else some (((va_up iv 801 ((iv 801) + 1)) 801), va_up iv 801 ((iv 801) + 1), au ar 800 (iv 801).toNatClampNeg a1, la, pA, pB) else some ((-3), iv, ar, la, pA, pB)
set_option maxRecDepth 100000 in
set_option maxHeartbeats 4000000 in
theorem kX8_append {a1 : Int32} {iv ivz : mI} {ar arz : mA} {la laz : mL} {pA pAz : mA} {pB pBz : mA} {rz : Int32} (hm : mX8_append a1 iv ar la pA pB = some (rz, ivz, arz, laz, pAz, pBz)) : Ct l D cI cJ yX8_append cX8_append 2 (some .int) 0 0 [.ref (oc 8), .int a1] (wC cI cJ oc ac pa pb aa ab xp xs tp cp mp iv ar la pA pB) (wC cI cJ oc ac pa pb aa ab xp xs tp cp mp ivz arz laz pAz pBz) rz := by
  intro sz
  refine ct_of (by decide) (Nat.le_of_ble_eq_true rfl) ?_
  intro p e s m args below meth c C hw ls hl
  have hl : lv_has ls 2 [(0, .ref (oc 8)), (1, .int a1)] := hl
  have hx := C.1.1
  have hb := C.1.2.1
  unfold mX8_append at hm
  refine lv_aload_n hx hb dX8_append_0 rfl (lv_at hl 0 rfl) ?_
  refine g_get C hw gC8_1 dX8_append_1 ?_
  refine lv_sipush (v := 200) hx hb dX8_append_4 cs_200 ?_
  refine lv_icmp_lt (tgt := 13) hx hb dX8_append_7 (by decide) (fun hc => ?_) (fun hc => ?_)
  · have hm := it_t hc hm
    refine lv_aload_n hx hb dX8_append_13 rfl (lv_at hl 0 rfl) ?_
    refine g_get C hw gC8_0 dX8_append_14 ?_
    refine lv_aload_n hx hb dX8_append_17 rfl (lv_at hl 0 rfl) ?_
    refine g_get C hw gC8_1 dX8_append_18 ?_
    refine lv_iload_n hx hb dX8_append_21 rfl (lv_at hl 1 rfl) ?_
    obtain ⟨hi, hm⟩ := it_a hm
    refine g_ast C hw sC8_0 hi dX8_append_22 (fun H locs hw => ?_)
    refine lv_aload_n hx hb dX8_append_23 rfl (lv_at hl 0 rfl) ?_
    refine lv_dup hx hb dX8_append_24 rfl ?_
    refine g_get C hw gC8_1 dX8_append_25 ?_
    refine lv_iconst (v := 1) hx hb dX8_append_28 ci_1 ?_
    refine lv_iadd hx hb dX8_append_29 ?_
    refine g_put C hw pC8_1 dX8_append_30 (fun H locs hw => ?_)
    refine lv_aload_n hx hb dX8_append_33 rfl (lv_at hl 0 rfl) ?_
    refine g_get C hw gC8_1 dX8_append_34 ?_
    cases hm
    exact g_iret C hw dX8_append_37
  · have hm := it_f hc hm
    refine lv_bipush (v := (-3)) hx hb dX8_append_10 cb_m3 ?_
    cases hm
    exact g_iret C hw dX8_append_12
def mX11_feed (a1 : Int32) (iv : mI) (ar : mA) (la : mL) (pA : mA) (pB : mA) : Option (Int32 × mI × mA × mL × mA × mA) := obc (mX8_append a1 iv ar la pA pB) (fun r5 iv5 ar5 la5 pA5 pB5 => some (r5, iv5, ar5, la5, pA5, pB5))
set_option maxRecDepth 100000 in
set_option maxHeartbeats 4000000 in
theorem kX11_feed {a1 : Int32} {iv ivz : mI} {ar arz : mA} {la laz : mL} {pA pAz : mA} {pB pBz : mA} {rz : Int32} (hm : mX11_feed a1 iv ar la pA pB = some (rz, ivz, arz, laz, pAz, pBz)) : Ct l D cI cJ yX11_feed cX11_feed 2 (some .int) 1 21 [.ref (oc 11), .int a1] (wC cI cJ oc ac pa pb aa ab pa pb tp cp mp iv ar la pA pB) (wC cI cJ oc ac pa pb aa ab pa pb tp cp mp ivz arz laz pAz pBz) rz := by
  intro sz
  refine ct_of (by decide) (Nat.le_of_ble_eq_true rfl) ?_
  intro p e s m args below meth c C hw ls hl
  have hl : lv_has ls 2 [(0, .ref (oc 11)), (1, .int a1)] := hl
  have hx := C.1.1
  have hb := C.1.2.1
  unfold mX11_feed at hm
  refine lv_aload_n hx hb dX11_feed_0 rfl (lv_at hl 0 rfl) ?_
  refine g_get C hw gC11_0 dX11_feed_1 ?_
  refine lv_iload_n hx hb dX11_feed_4 rfl (lv_at hl 1 rfl) ?_
  obtain ⟨r5, iv5, ar5, la5, pA5, pB5, hc5, hm⟩ := obc_some hm
  refine g_calli (As := [.int a1]) (rest := []) C hw (kX8_append hc5) mtX8_append lkX11_104 oC8 hl.1 rfl rfl (Nat.le_of_ble_eq_true rfl) ⟨Nat.le_of_ble_eq_true rfl, Nat.le_of_ble_eq_true rfl⟩ dX11_feed_5 ⟨Nat.zero_le _, Nat.zero_le _⟩ (fun H locs hw => ?_)
  cases hm
  exact g_iret C hw dX11_feed_8
def mX8_rewind  (iv : mI) (ar : mA) (la : mL) (pA : mA) (pB : mA) : Option (Int32 × mI × mA × mL × mA × mA) := some (0, va_up (va_up (va_up iv 802 0) 804 (-1)) 805 (-1), ar, la, pA, pB)
set_option maxRecDepth 100000 in
set_option maxHeartbeats 4000000 in
theorem kX8_rewind {iv ivz : mI} {ar arz : mA} {la laz : mL} {pA pAz : mA} {pB pBz : mA} {rz : Int32} (hm : mX8_rewind iv ar la pA pB = some (rz, ivz, arz, laz, pAz, pBz)) : CtV l D cI cJ yX8_rewind cX8_rewind 1 0 0 [.ref (oc 8)] (wC cI cJ oc ac pa pb aa ab xp xs tp cp mp iv ar la pA pB) (wC cI cJ oc ac pa pb aa ab xp xs tp cp mp ivz arz laz pAz pBz) := by
  intro sz
  refine ct_of (by decide) (Nat.le_of_ble_eq_true rfl) ?_
  intro p e s m args below meth c C hw ls hl
  have hl : lv_has ls 1 [(0, .ref (oc 8))] := hl
  have hx := C.1.1
  have hb := C.1.2.1
  unfold mX8_rewind at hm
  refine lv_aload_n hx hb dX8_rewind_0 rfl (lv_at hl 0 rfl) ?_
  refine lv_iconst (v := 0) hx hb dX8_rewind_1 ci_0 ?_
  refine g_put C hw pC8_2 dX8_rewind_2 (fun H locs hw => ?_)
  refine lv_aload_n hx hb dX8_rewind_5 rfl (lv_at hl 0 rfl) ?_
  refine lv_iconst (v := (-1)) hx hb dX8_rewind_6 ci_m1 ?_
  refine g_put C hw pC8_4 dX8_rewind_7 (fun H locs hw => ?_)
  refine lv_aload_n hx hb dX8_rewind_10 rfl (lv_at hl 0 rfl) ?_
  refine lv_iconst (v := (-1)) hx hb dX8_rewind_11 ci_m1 ?_
  refine g_put C hw pC8_5 dX8_rewind_12 (fun H locs hw => ?_)
  cases hm
  exact g_vret C hw dX8_rewind_15
def mX3_kindOf (a1 : Int32) (iv : mI) (ar : mA) (la : mL) (pA : mA) (pB : mA) : Option (Int32 × mI × mA × mL × mA × mA) := if a1 < 0 then some ((-1), iv, ar, la, pA, pB) else if (iv 303) ≤ a1 then some ((-1), iv, ar, la, pA, pB) else if a1 < 0 ∨ 400 ≤ a1.toNatClampNeg then none else some ((ar 300 a1.toNatClampNeg), iv, ar, la, pA, pB)
set_option maxRecDepth 100000 in
set_option maxHeartbeats 4000000 in
theorem kX3_kindOf {a1 : Int32} {iv ivz : mI} {ar arz : mA} {la laz : mL} {pA pAz : mA} {pB pBz : mA} {rz : Int32} (hm : mX3_kindOf a1 iv ar la pA pB = some (rz, ivz, arz, laz, pAz, pBz)) : Ct l D cI cJ yX3_kindOf cX3_kindOf 2 (some .int) 0 0 [.ref (oc 3), .int a1] (wC cI cJ oc ac pa pb aa ab xp xs tp cp mp iv ar la pA pB) (wC cI cJ oc ac pa pb aa ab xp xs tp cp mp ivz arz laz pAz pBz) rz := by
  intro sz
  refine ct_of (by decide) (Nat.le_of_ble_eq_true rfl) ?_
  intro p e s m args below meth c C hw ls hl
  have hl : lv_has ls 2 [(0, .ref (oc 3)), (1, .int a1)] := hl
  have hx := C.1.1
  have hb := C.1.2.1
  unfold mX3_kindOf at hm
  refine lv_iload_n hx hb dX3_kindOf_0 rfl (lv_at hl 1 rfl) ?_
  refine lv_if_lt (tgt := 21) hx hb dX3_kindOf_1 (by decide) (fun hc => ?_) (fun hc => ?_)
  · have hm := it_t hc hm
    refine lv_iconst (v := (-1)) hx hb dX3_kindOf_21 ci_m1 ?_
    cases hm
    exact g_iret C hw dX3_kindOf_22
  · have hm := it_f hc hm
    refine lv_iload_n hx hb dX3_kindOf_4 rfl (lv_at hl 1 rfl) ?_
    refine lv_aload_n hx hb dX3_kindOf_5 rfl (lv_at hl 0 rfl) ?_
    refine g_get C hw gC3_3 dX3_kindOf_6 ?_
    refine lv_icmp_ge (tgt := 21) hx hb dX3_kindOf_9 (by decide) (fun hc => ?_) (fun hc => ?_)
    · have hm := it_t hc hm
      refine lv_iconst (v := (-1)) hx hb dX3_kindOf_21 ci_m1 ?_
      cases hm
      exact g_iret C hw dX3_kindOf_22
    · have hm := it_f hc hm
      refine lv_aload_n hx hb dX3_kindOf_12 rfl (lv_at hl 0 rfl) ?_
      refine g_get C hw gC3_0 dX3_kindOf_13 ?_
      refine lv_iload_n hx hb dX3_kindOf_16 rfl (lv_at hl 1 rfl) ?_
      obtain ⟨hi, hm⟩ := it_a hm
      refine g_ald C hw aC3_0 hi dX3_kindOf_17 ?_
      refine lv_goto (tgt := 22) hx hb dX3_kindOf_18 (by decide) ?_
      cases hm
      exact g_iret C hw dX3_kindOf_22
def mX8_fail (a1 : Int32) (a2 : Int32) (iv : mI) (ar : mA) (la : mL) (pA : mA) (pB : mA) : Option (Int32 × mI × mA × mL × mA × mA) := some (0, va_up (va_up iv 804 a1) 805 a2, ar, la, pA, pB)
set_option maxRecDepth 100000 in
set_option maxHeartbeats 4000000 in
theorem kX8_fail {a1 a2 : Int32} {iv ivz : mI} {ar arz : mA} {la laz : mL} {pA pAz : mA} {pB pBz : mA} {rz : Int32} (hm : mX8_fail a1 a2 iv ar la pA pB = some (rz, ivz, arz, laz, pAz, pBz)) : Ct l D cI cJ yX8_fail cX8_fail 3 (some .boolean) 0 0 [.ref (oc 8), .int a1, .int a2] (wC cI cJ oc ac pa pb aa ab xp xs tp cp mp iv ar la pA pB) (wC cI cJ oc ac pa pb aa ab xp xs tp cp mp ivz arz laz pAz pBz) rz := by
  intro sz
  refine ct_of (by decide) (Nat.le_of_ble_eq_true rfl) ?_
  intro p e s m args below meth c C hw ls hl
  have hl : lv_has ls 3 [(0, .ref (oc 8)), (1, .int a1), (2, .int a2)] := hl
  have hx := C.1.1
  have hb := C.1.2.1
  unfold mX8_fail at hm
  refine lv_aload_n hx hb dX8_fail_0 rfl (lv_at hl 0 rfl) ?_
  refine lv_iload_n hx hb dX8_fail_1 rfl (lv_at hl 1 rfl) ?_
  refine g_put C hw pC8_4 dX8_fail_2 (fun H locs hw => ?_)
  refine lv_aload_n hx hb dX8_fail_5 rfl (lv_at hl 0 rfl) ?_
  refine lv_iload_n hx hb dX8_fail_6 rfl (lv_at hl 2 rfl) ?_
  refine g_put C hw pC8_5 dX8_fail_7 (fun H locs hw => ?_)
  refine lv_iconst (v := 0) hx hb dX8_fail_10 ci_0 ?_
  cases hm
  exact g_zret C hw (Or.inl rfl) dX8_fail_11
def mX8_take (a1 : Int32) (a2 : Int32) (iv : mI) (ar : mA) (la : mL) (pA : mA) (pB : mA) : Option (Int32 × mI × mA × mL × mA × mA) := if (iv 802) < (iv 801) then if (iv 802) < 0 ∨ 200 ≤ (iv 802).toNatClampNeg then none else if (ar 800 (iv 802).toNatClampNeg) < a1 then obc (mX8_fail (-11) (iv 802) iv ar la pA pB) (fun r49 iv49 ar49 la49 pA49 pB49 => if r49 = 0 ∨ r49 = 1 then some (r49, iv49, ar49, la49, pA49, pB49) else none) else if (ar 800 (iv 802).toNatClampNeg) ≤ a2 then some (1, va_up (va_up iv 803 (ar 800 (iv 802).toNatClampNeg)) 802 (((va_up iv 803 (ar 800 (iv 802).toNatClampNeg)) 802) + 1), ar, la, pA, pB) else obc (mX8_fail (-11) (iv 802) iv ar la pA pB) (fun r49 iv49 ar49 la49 pA49 pB49 => if r49 = 0 ∨ r49 = 1 then some (r49, iv49, ar49, la49, pA49, pB49) else none) else obc (mX8_fail (-12) (iv 802) iv ar la pA pB) (fun r18 iv18 ar18 la18 pA18 pB18 => if r18 = 0 ∨ r18 = 1 then some (r18, iv18, ar18, la18, pA18, pB18) else none)
set_option maxRecDepth 100000 in
set_option maxHeartbeats 4000000 in
theorem kX8_take {a1 a2 : Int32} {iv ivz : mI} {ar arz : mA} {la laz : mL} {pA pAz : mA} {pB pBz : mA} {rz : Int32} (hm : mX8_take a1 a2 iv ar la pA pB = some (rz, ivz, arz, laz, pAz, pBz)) : Ct l D cI cJ yX8_take cX8_take 4 (some .boolean) 1 22 [.ref (oc 8), .int a1, .int a2] (wC cI cJ oc ac pa pb aa ab xp xs tp cp mp iv ar la pA pB) (wC cI cJ oc ac pa pb aa ab xp xs tp cp mp ivz arz laz pAz pBz) rz := by
  intro sz
  refine ct_of (by decide) (Nat.le_of_ble_eq_true rfl) ?_
  intro p e s m args below meth c C hw ls hl
  have hl : lv_has ls 4 [(0, .ref (oc 8)), (1, .int a1), (2, .int a2)] := hl
  have hx := C.1.1
  have hb := C.1.2.1
  unfold mX8_take at hm
  refine lv_aload_n hx hb dX8_take_0 rfl (lv_at hl 0 rfl) ?_
  refine g_get C hw gC8_2 dX8_take_1 ?_
  refine lv_aload_n hx hb dX8_take_4 rfl (lv_at hl 0 rfl) ?_
  refine g_get C hw gC8_1 dX8_take_5 ?_
  refine lv_icmp_lt (tgt := 22) hx hb dX8_take_8 (by decide) (fun hc => ?_) (fun hc => ?_)
  · have hm := it_t hc hm
    refine lv_aload_n hx hb dX8_take_22 rfl (lv_at hl 0 rfl) ?_
    refine g_get C hw gC8_0 dX8_take_23 ?_
    refine lv_aload_n hx hb dX8_take_26 rfl (lv_at hl 0 rfl) ?_
    refine g_get C hw gC8_2 dX8_take_27 ?_
    obtain ⟨hi, hm⟩ := it_a hm
    refine g_ald C hw aC8_0 hi dX8_take_30 ?_
    refine lv_istore_n (lv' := [(3, .int (ar 800 (iv 802).toNatClampNeg)), (0, .ref (oc 8)), (1, .int a1), (2, .int a2)]) hx hb dX8_take_31 rfl hl (by decide) rfl (fun ls hl => ?_)
    refine lv_iload_n hx hb dX8_take_32 rfl (lv_at hl 0 rfl) ?_
    refine lv_iload_n hx hb dX8_take_33 rfl (lv_at hl 2 rfl) ?_
    refine lv_icmp_lt (tgt := 42) hx hb dX8_take_34 (by decide) (fun hc => ?_) (fun hc => ?_)
    · have hm := it_t hc hm
      refine lv_aload_n hx hb dX8_take_42 rfl (lv_at hl 1 rfl) ?_
      refine lv_bipush (v := (-11)) hx hb dX8_take_43 cb_m11 ?_
      refine lv_aload_n hx hb dX8_take_45 rfl (lv_at hl 1 rfl) ?_
      refine g_get C hw gC8_2 dX8_take_46 ?_
      obtain ⟨r49, iv49, ar49, la49, pA49, pB49, hc49, hm⟩ := obc_some hm
      refine g_calli (As := [.int (-11), .int (iv 802)]) (rest := []) C hw (kX8_fail hc49) mtX8_fail lkX8_31 oC8 hl.1 rfl rfl (Nat.le_of_ble_eq_true rfl) ⟨Nat.le_of_ble_eq_true rfl, Nat.le_of_ble_eq_true rfl⟩ dX8_take_49 ⟨Nat.zero_le _, Nat.zero_le _⟩ (fun H locs hw => ?_)
      obtain ⟨hz, hm⟩ := it_z hm
      cases hm
      exact g_zret C hw hz dX8_take_52
    · have hm := it_f hc hm
      refine lv_iload_n hx hb dX8_take_37 rfl (lv_at hl 0 rfl) ?_
      refine lv_iload_n hx hb dX8_take_38 rfl (lv_at hl 3 rfl) ?_
      refine lv_icmp_le (tgt := 53) hx hb dX8_take_39 (by decide) (fun hc => ?_) (fun hc => ?_)
      · have hm := it_t hc hm
        refine lv_aload_n hx hb dX8_take_53 rfl (lv_at hl 1 rfl) ?_
        refine lv_iload_n hx hb dX8_take_54 rfl (lv_at hl 0 rfl) ?_
        refine g_put C hw pC8_3 dX8_take_55 (fun H locs hw => ?_)
        refine lv_aload_n hx hb dX8_take_58 rfl (lv_at hl 1 rfl) ?_
        refine lv_dup hx hb dX8_take_59 rfl ?_
        refine g_get C hw gC8_2 dX8_take_60 ?_
        refine lv_iconst (v := 1) hx hb dX8_take_63 ci_1 ?_
        refine lv_iadd hx hb dX8_take_64 ?_
        refine g_put C hw pC8_2 dX8_take_65 (fun H locs hw => ?_)
        refine lv_iconst (v := 1) hx hb dX8_take_68 ci_1 ?_
        cases hm
        exact g_zret C hw (Or.inr rfl) dX8_take_69
      · have hm := it_f hc hm
        refine lv_aload_n hx hb dX8_take_42 rfl (lv_at hl 1 rfl) ?_
        refine lv_bipush (v := (-11)) hx hb dX8_take_43 cb_m11 ?_
        refine lv_aload_n hx hb dX8_take_45 rfl (lv_at hl 1 rfl) ?_
        refine g_get C hw gC8_2 dX8_take_46 ?_
        obtain ⟨r49, iv49, ar49, la49, pA49, pB49, hc49, hm⟩ := obc_some hm
        refine g_calli (As := [.int (-11), .int (iv 802)]) (rest := []) C hw (kX8_fail hc49) mtX8_fail lkX8_31 oC8 hl.1 rfl rfl (Nat.le_of_ble_eq_true rfl) ⟨Nat.le_of_ble_eq_true rfl, Nat.le_of_ble_eq_true rfl⟩ dX8_take_49 ⟨Nat.zero_le _, Nat.zero_le _⟩ (fun H locs hw => ?_)
        obtain ⟨hz, hm⟩ := it_z hm
        cases hm
        exact g_zret C hw hz dX8_take_52
  · have hm := it_f hc hm
    refine lv_aload_n hx hb dX8_take_11 rfl (lv_at hl 0 rfl) ?_
    refine lv_bipush (v := (-12)) hx hb dX8_take_12 cb_m12 ?_
    refine lv_aload_n hx hb dX8_take_14 rfl (lv_at hl 0 rfl) ?_
    refine g_get C hw gC8_2 dX8_take_15 ?_
    obtain ⟨r18, iv18, ar18, la18, pA18, pB18, hc18, hm⟩ := obc_some hm
    refine g_calli (As := [.int (-12), .int (iv 802)]) (rest := []) C hw (kX8_fail hc18) mtX8_fail lkX8_31 oC8 hl.1 rfl rfl (Nat.le_of_ble_eq_true rfl) ⟨Nat.le_of_ble_eq_true rfl, Nat.le_of_ble_eq_true rfl⟩ dX8_take_18 ⟨Nat.zero_le _, Nat.zero_le _⟩ (fun H locs hw => ?_)
    obtain ⟨hz, hm⟩ := it_z hm
    cases hm
    exact g_zret C hw hz dX8_take_21
def mX8_taken  (iv : mI) (ar : mA) (la : mL) (pA : mA) (pB : mA) : Option (Int32 × mI × mA × mL × mA × mA) := some ((iv 803), iv, ar, la, pA, pB)
set_option maxRecDepth 100000 in
set_option maxHeartbeats 4000000 in
theorem kX8_taken {iv ivz : mI} {ar arz : mA} {la laz : mL} {pA pAz : mA} {pB pBz : mA} {rz : Int32} (hm : mX8_taken iv ar la pA pB = some (rz, ivz, arz, laz, pAz, pBz)) : Ct l D cI cJ yX8_taken cX8_taken 1 (some .int) 0 0 [.ref (oc 8)] (wC cI cJ oc ac pa pb aa ab xp xs tp cp mp iv ar la pA pB) (wC cI cJ oc ac pa pb aa ab xp xs tp cp mp ivz arz laz pAz pBz) rz := by
  intro sz
  refine ct_of (by decide) (Nat.le_of_ble_eq_true rfl) ?_
  intro p e s m args below meth c C hw ls hl
  have hl : lv_has ls 1 [(0, .ref (oc 8))] := hl
  have hx := C.1.1
  have hb := C.1.2.1
  unfold mX8_taken at hm
  refine lv_aload_n hx hb dX8_taken_0 rfl (lv_at hl 0 rfl) ?_
  refine g_get C hw gC8_3 dX8_taken_1 ?_
  cases hm
  exact g_iret C hw dX8_taken_4
def mX9_readLabel  (iv : mI) (ar : mA) (la : mL) (pA : mA) (pB : mA) : Option (Int32 × mI × mA × mL × mA × mA) := if ((iv 906) - 1) < 0 then some (1, iv, ar, la, pA, pB) else if ((iv 906) - 1) < 0 ∨ 200 ≤ ((iv 906) - 1).toNatClampNeg then none else if (ar 903 ((iv 906) - 1).toNatClampNeg) = (-1) then if ((iv 906) - 1) < 0 ∨ 200 ≤ ((iv 906) - 1).toNatClampNeg then none else obc (mX3_kindOf (ar 902 ((iv 906) - 1).toNatClampNeg) iv ar la pA pB) (fun r33 iv33 ar33 la33 pA33 pB33 => if r33 = 4 then if ((iv 906) - 1) < 0 ∨ 200 ≤ ((iv 906) - 1).toNatClampNeg then none else if ((iv 906) - 1) < 0 ∨ 200 ≤ ((iv 906) - 1).toNatClampNeg then none else some (1, iv33, au ar33 905 ((iv 906) - 1).toNatClampNeg ((ar33 905 ((iv 906) - 1).toNatClampNeg) + 1), la33, pA33, pB33) else if ((iv 906) - 1) < 0 ∨ 200 ≤ ((iv 906) - 1).toNatClampNeg then none else obc (mX8_take ((ar33 905 ((iv 906) - 1).toNatClampNeg) + 1) 7 iv33 ar33 la33 pA33 pB33) (fun r66 iv66 ar66 la66 pA66 pB66 => if r66 = 0 then some (0, iv66, ar66, la66, pA66, pB66) else obc (mX8_taken iv66 ar66 la66 pA66 pB66) (fun r83 iv83 ar83 la83 pA83 pB83 => if ((iv 906) - 1) < 0 ∨ 200 ≤ ((iv 906) - 1).toNatClampNeg then none else some (1, iv83, au ar83 905 ((iv 906) - 1).toNatClampNeg r83, la83, pA83, pB83)))) else some (1, iv, ar, la, pA, pB)
set_option maxRecDepth 100000 in
set_option maxHeartbeats 4000000 in
theorem kX9_readLabel {iv ivz : mI} {ar arz : mA} {la laz : mL} {pA pAz : mA} {pB pBz : mA} {rz : Int32} (hm : mX9_readLabel iv ar la pA pB = some (rz, ivz, arz, laz, pAz, pBz)) : Ct l D cI cJ yX9_readLabel cX9_readLabel 2 (some .boolean) 2 45 [.ref (oc 9)] (wC cI cJ oc ac pa pb aa ab xp xs tp cp mp iv ar la pA pB) (wC cI cJ oc ac pa pb aa ab xp xs tp cp mp ivz arz laz pAz pBz) rz := by
  intro sz
  refine ct_of (by decide) (Nat.le_of_ble_eq_true rfl) ?_
  intro p e s m args below meth c C hw ls hl
  have hl : lv_has ls 2 [(0, .ref (oc 9))] := hl
  have hx := C.1.1
  have hb := C.1.2.1
  unfold mX9_readLabel at hm
  refine lv_aload_n hx hb dX9_readLabel_0 rfl (lv_at hl 0 rfl) ?_
  refine g_get C hw gC9_6 dX9_readLabel_1 ?_
  refine lv_iconst (v := 1) hx hb dX9_readLabel_4 ci_1 ?_
  refine lv_isub hx hb dX9_readLabel_5 ?_
  refine lv_istore_n (lv' := [(1, .int ((iv 906) - 1)), (0, .ref (oc 9))]) hx hb dX9_readLabel_6 rfl hl (by decide) rfl (fun ls hl => ?_)
  refine lv_iload_n hx hb dX9_readLabel_7 rfl (lv_at hl 0 rfl) ?_
  refine lv_if_lt (tgt := 21) hx hb dX9_readLabel_8 (by decide) (fun hc => ?_) (fun hc => ?_)
  · have hm := it_t hc hm
    refine lv_iconst (v := 1) hx hb dX9_readLabel_21 ci_1 ?_
    cases hm
    exact g_zret C hw (Or.inr rfl) dX9_readLabel_22
  · have hm := it_f hc hm
    refine lv_aload_n hx hb dX9_readLabel_11 rfl (lv_at hl 1 rfl) ?_
    refine g_get C hw gC9_3 dX9_readLabel_12 ?_
    refine lv_iload_n hx hb dX9_readLabel_15 rfl (lv_at hl 0 rfl) ?_
    obtain ⟨hi, hm⟩ := it_a hm
    refine g_ald C hw aC9_3 hi dX9_readLabel_16 ?_
    refine lv_iconst (v := (-1)) hx hb dX9_readLabel_17 ci_m1 ?_
    refine lv_icmp_eq (tgt := 23) hx hb dX9_readLabel_18 (by decide) (fun hc => ?_) (fun hc => ?_)
    · have hm := it_t hc hm
      refine lv_aload_n hx hb dX9_readLabel_23 rfl (lv_at hl 1 rfl) ?_
      refine g_get C hw gC9_1 dX9_readLabel_24 ?_
      refine lv_aload_n hx hb dX9_readLabel_27 rfl (lv_at hl 1 rfl) ?_
      refine g_get C hw gC9_2 dX9_readLabel_28 ?_
      refine lv_iload_n hx hb dX9_readLabel_31 rfl (lv_at hl 0 rfl) ?_
      obtain ⟨hi, hm⟩ := it_a hm
      refine g_ald C hw aC9_2 hi dX9_readLabel_32 ?_
      obtain ⟨r33, iv33, ar33, la33, pA33, pB33, hc33, hm⟩ := obc_some hm
      refine g_calli (As := [.int (ar 902 ((iv 906) - 1).toNatClampNeg)]) (rest := []) C hw (kX3_kindOf hc33) mtX3_kindOf lkX9_48 oC3 hl.1 rfl rfl (Nat.le_of_ble_eq_true rfl) ⟨Nat.le_of_ble_eq_true rfl, Nat.le_of_ble_eq_true rfl⟩ dX9_readLabel_33 ⟨Nat.zero_le _, Nat.zero_le _⟩ (fun H locs hw => ?_)
      refine lv_iconst (v := 4) hx hb dX9_readLabel_36 ci_4 ?_
      refine lv_icmp_ne (tgt := 52) hx hb dX9_readLabel_37 (by decide) (fun hc => ?_) (fun hc => ?_)
      · have hm := it_f hc hm
        refine lv_aload_n hx hb dX9_readLabel_52 rfl (lv_at hl 1 rfl) ?_
        refine g_get C hw gC9_0 dX9_readLabel_53 ?_
        refine lv_aload_n hx hb dX9_readLabel_56 rfl (lv_at hl 1 rfl) ?_
        refine g_get C hw gC9_5 dX9_readLabel_57 ?_
        refine lv_iload_n hx hb dX9_readLabel_60 rfl (lv_at hl 0 rfl) ?_
        obtain ⟨hi, hm⟩ := it_a hm
        refine g_ald C hw aC9_5 hi dX9_readLabel_61 ?_
        refine lv_iconst (v := 1) hx hb dX9_readLabel_62 ci_1 ?_
        refine lv_iadd hx hb dX9_readLabel_63 ?_
        refine lv_bipush (v := 7) hx hb dX9_readLabel_64 cb_7 ?_
        obtain ⟨r66, iv66, ar66, la66, pA66, pB66, hc66, hm⟩ := obc_some hm
        refine g_calli (As := [.int ((ar33 905 ((iv 906) - 1).toNatClampNeg) + 1), .int 7]) (rest := []) C hw (kX8_take hc66) mtX8_take lkX9_54 oC8 hl.1 rfl rfl (Nat.le_of_ble_eq_true rfl) ⟨Nat.le_of_ble_eq_true rfl, Nat.le_of_ble_eq_true rfl⟩ dX9_readLabel_66 ⟨Nat.zero_le _, Nat.zero_le _⟩ (fun H locs hw => ?_)
        refine lv_if_ne (tgt := 74) hx hb dX9_readLabel_69 (by decide) (fun hc => ?_) (fun hc => ?_)
        · have hm := it_f hc hm
          refine lv_aload_n hx hb dX9_readLabel_74 rfl (lv_at hl 1 rfl) ?_
          refine g_get C hw gC9_5 dX9_readLabel_75 ?_
          refine lv_iload_n hx hb dX9_readLabel_78 rfl (lv_at hl 0 rfl) ?_
          refine lv_aload_n hx hb dX9_readLabel_79 rfl (lv_at hl 1 rfl) ?_
          refine g_get C hw gC9_0 dX9_readLabel_80 ?_
          obtain ⟨r83, iv83, ar83, la83, pA83, pB83, hc83, hm⟩ := obc_some hm
          refine g_calli (As := []) (rest := [.int ((iv 906) - 1), .ref (ac 905)]) C hw (kX8_taken hc83) mtX8_taken lkX9_58 oC8 hl.1 rfl rfl (Nat.le_of_ble_eq_true rfl) ⟨Nat.le_of_ble_eq_true rfl, Nat.le_of_ble_eq_true rfl⟩ dX9_readLabel_83 ⟨Nat.zero_le _, Nat.zero_le _⟩ (fun H locs hw => ?_)
          obtain ⟨hi, hm⟩ := it_a hm
          refine g_ast C hw sC9_5 hi dX9_readLabel_86 (fun H locs hw => ?_)
          refine lv_iconst (v := 1) hx hb dX9_readLabel_87 ci_1 ?_
          cases hm
          exact g_zret C hw (Or.inr rfl) dX9_readLabel_88
        · have hm := it_t hc hm
          refine lv_iconst (v := 0) hx hb dX9_readLabel_72 ci_0 ?_
          cases hm
          exact g_zret C hw (Or.inl rfl) dX9_readLabel_73
      · have hm := it_t hc hm
        refine lv_aload_n hx hb dX9_readLabel_40 rfl (lv_at hl 1 rfl) ?_
        refine g_get C hw gC9_5 dX9_readLabel_41 ?_
        refine lv_iload_n hx hb dX9_readLabel_44 rfl (lv_at hl 0 rfl) ?_
        refine lv_dup2_11 hx hb dX9_readLabel_45 rfl rfl ?_
        obtain ⟨hi, hm⟩ := it_a hm
        refine g_ald C hw aC9_5 hi dX9_readLabel_46 ?_
        refine lv_iconst (v := 1) hx hb dX9_readLabel_47 ci_1 ?_
        refine lv_iadd hx hb dX9_readLabel_48 ?_
        obtain ⟨hi, hm⟩ := it_a hm
        refine g_ast C hw sC9_5 hi dX9_readLabel_49 (fun H locs hw => ?_)
        refine lv_iconst (v := 1) hx hb dX9_readLabel_50 ci_1 ?_
        cases hm
        exact g_zret C hw (Or.inr rfl) dX9_readLabel_51
    · have hm := it_f hc hm
      refine lv_iconst (v := 1) hx hb dX9_readLabel_21 ci_1 ?_
      cases hm
      exact g_zret C hw (Or.inr rfl) dX9_readLabel_22
def mX8_at  (iv : mI) (ar : mA) (la : mL) (pA : mA) (pB : mA) : Option (Int32 × mI × mA × mL × mA × mA) := some ((iv 802), iv, ar, la, pA, pB)
set_option maxRecDepth 100000 in
set_option maxHeartbeats 4000000 in
theorem kX8_at {iv ivz : mI} {ar arz : mA} {la laz : mL} {pA pAz : mA} {pB pBz : mA} {rz : Int32} (hm : mX8_at iv ar la pA pB = some (rz, ivz, arz, laz, pAz, pBz)) : Ct l D cI cJ yX8_at cX8_at 1 (some .int) 0 0 [.ref (oc 8)] (wC cI cJ oc ac pa pb aa ab xp xs tp cp mp iv ar la pA pB) (wC cI cJ oc ac pa pb aa ab xp xs tp cp mp ivz arz laz pAz pBz) rz := by
  intro sz
  refine ct_of (by decide) (Nat.le_of_ble_eq_true rfl) ?_
  intro p e s m args below meth c C hw ls hl
  have hl : lv_has ls 1 [(0, .ref (oc 8))] := hl
  have hx := C.1.1
  have hb := C.1.2.1
  unfold mX8_at at hm
  refine lv_aload_n hx hb dX8_at_0 rfl (lv_at hl 0 rfl) ?_
  refine g_get C hw gC8_2 dX8_at_1 ?_
  cases hm
  exact g_iret C hw dX8_at_4
def mX9_push (a1 : Int32) (a2 : Int32) (a3 : Int32) (iv : mI) (ar : mA) (la : mL) (pA : mA) (pB : mA) : Option (Int32 × mI × mA × mL × mA × mA) := if 200 ≤ (iv 906) then some (0, iv, ar, la, pA, pB) else if (iv 906) < 0 ∨ 200 ≤ (iv 906).toNatClampNeg then none else if (iv 906) < 0 ∨ 200 ≤ (iv 906).toNatClampNeg then none else if (iv 906) < 0 ∨ 200 ≤ (iv 906).toNatClampNeg then none else if (iv 906) < 0 ∨ 200 ≤ (iv 906).toNatClampNeg then none else some (0, va_up iv 906 ((iv 906) + 1), au (au (au (au ar 902 (iv 906).toNatClampNeg a1) 903 (iv 906).toNatClampNeg a2) 904 (iv 906).toNatClampNeg a3) 905 (iv 906).toNatClampNeg (-1), la, pA, pB)
set_option maxRecDepth 100000 in
set_option maxHeartbeats 4000000 in
theorem kX9_push {a1 a2 a3 : Int32} {iv ivz : mI} {ar arz : mA} {la laz : mL} {pA pAz : mA} {pB pBz : mA} {rz : Int32} (hm : mX9_push a1 a2 a3 iv ar la pA pB = some (rz, ivz, arz, laz, pAz, pBz)) : CtV l D cI cJ yX9_push cX9_push 4 0 0 [.ref (oc 9), .int a1, .int a2, .int a3] (wC cI cJ oc ac pa pb aa ab xp xs tp cp mp iv ar la pA pB) (wC cI cJ oc ac pa pb aa ab xp xs tp cp mp ivz arz laz pAz pBz) := by
  intro sz
  refine ct_of (by decide) (Nat.le_of_ble_eq_true rfl) ?_
  intro p e s m args below meth c C hw ls hl
  have hl : lv_has ls 4 [(0, .ref (oc 9)), (1, .int a1), (2, .int a2), (3, .int a3)] := hl
  have hx := C.1.1
  have hb := C.1.2.1
  unfold mX9_push at hm
  refine lv_aload_n hx hb dX9_push_0 rfl (lv_at hl 0 rfl) ?_
  refine g_get C hw gC9_6 dX9_push_1 ?_
  refine lv_sipush (v := 200) hx hb dX9_push_4 cs_200 ?_
  refine lv_icmp_ge (tgt := 60) hx hb dX9_push_7 (by decide) (fun hc => ?_) (fun hc => ?_)
  · have hm := it_t hc hm
    cases hm
    exact g_vret C hw dX9_push_60
  · have hm := it_f hc hm
    refine lv_aload_n hx hb dX9_push_10 rfl (lv_at hl 0 rfl) ?_
    refine g_get C hw gC9_2 dX9_push_11 ?_
    refine lv_aload_n hx hb dX9_push_14 rfl (lv_at hl 0 rfl) ?_
    refine g_get C hw gC9_6 dX9_push_15 ?_
    refine lv_iload_n hx hb dX9_push_18 rfl (lv_at hl 1 rfl) ?_
    obtain ⟨hi, hm⟩ := it_a hm
    refine g_ast C hw sC9_2 hi dX9_push_19 (fun H locs hw => ?_)
    refine lv_aload_n hx hb dX9_push_20 rfl (lv_at hl 0 rfl) ?_
    refine g_get C hw gC9_3 dX9_push_21 ?_
    refine lv_aload_n hx hb dX9_push_24 rfl (lv_at hl 0 rfl) ?_
    refine g_get C hw gC9_6 dX9_push_25 ?_
    refine lv_iload_n hx hb dX9_push_28 rfl (lv_at hl 2 rfl) ?_
    obtain ⟨hi, hm⟩ := it_a hm
    refine g_ast C hw sC9_3 hi dX9_push_29 (fun H locs hw => ?_)
    refine lv_aload_n hx hb dX9_push_30 rfl (lv_at hl 0 rfl) ?_
    refine g_get C hw gC9_4 dX9_push_31 ?_
    refine lv_aload_n hx hb dX9_push_34 rfl (lv_at hl 0 rfl) ?_
    refine g_get C hw gC9_6 dX9_push_35 ?_
    refine lv_iload_n hx hb dX9_push_38 rfl (lv_at hl 3 rfl) ?_
    obtain ⟨hi, hm⟩ := it_a hm
    refine g_ast C hw sC9_4 hi dX9_push_39 (fun H locs hw => ?_)
    refine lv_aload_n hx hb dX9_push_40 rfl (lv_at hl 0 rfl) ?_
    refine g_get C hw gC9_5 dX9_push_41 ?_
    refine lv_aload_n hx hb dX9_push_44 rfl (lv_at hl 0 rfl) ?_
    refine g_get C hw gC9_6 dX9_push_45 ?_
    refine lv_iconst (v := (-1)) hx hb dX9_push_48 ci_m1 ?_
    obtain ⟨hi, hm⟩ := it_a hm
    refine g_ast C hw sC9_5 hi dX9_push_49 (fun H locs hw => ?_)
    refine lv_aload_n hx hb dX9_push_50 rfl (lv_at hl 0 rfl) ?_
    refine lv_dup hx hb dX9_push_51 rfl ?_
    refine g_get C hw gC9_6 dX9_push_52 ?_
    refine lv_iconst (v := 1) hx hb dX9_push_55 ci_1 ?_
    refine lv_iadd hx hb dX9_push_56 ?_
    refine g_put C hw pC9_6 dX9_push_57 (fun H locs hw => ?_)
    cases hm
    exact g_vret C hw dX9_push_60
def mX9_readBind  (iv : mI) (ar : mA) (la : mL) (pA : mA) (pB : mA) : Option (Int32 × mI × mA × mL × mA × mA) := obc (mX8_take 0 9 iv ar la pA pB) (fun r7 iv7 ar7 la7 pA7 pB7 => if r7 = 0 then some (0, iv7, ar7, la7, pA7, pB7) else obc (mX3_size iv7 ar7 la7 pA7 pB7) (fun r20 iv20 ar20 la20 pA20 pB20 => obc (mX8_taken iv20 ar20 la20 pA20 pB20) (fun r27 iv27 ar27 la27 pA27 pB27 => obc (mX9_push r20 r27 1 iv27 ar27 la27 pA27 pB27) (fun r31 iv31 ar31 la31 pA31 pB31 => some (1, iv31, ar31, la31, pA31, pB31)))))
set_option maxRecDepth 100000 in
set_option maxHeartbeats 4000000 in
theorem kX9_readBind {iv ivz : mI} {ar arz : mA} {la laz : mL} {pA pAz : mA} {pB pBz : mA} {rz : Int32} (hm : mX9_readBind iv ar la pA pB = some (rz, ivz, arz, laz, pAz, pBz)) : Ct l D cI cJ yX9_readBind cX9_readBind 1 (some .boolean) 2 45 [.ref (oc 9)] (wC cI cJ oc ac pa pb aa ab xp xs tp cp mp iv ar la pA pB) (wC cI cJ oc ac pa pb aa ab xp xs tp cp mp ivz arz laz pAz pBz) rz := by
  intro sz
  refine ct_of (by decide) (Nat.le_of_ble_eq_true rfl) ?_
  intro p e s m args below meth c C hw ls hl
  have hl : lv_has ls 1 [(0, .ref (oc 9))] := hl
  have hx := C.1.1
  have hb := C.1.2.1
  unfold mX9_readBind at hm
  refine lv_aload_n hx hb dX9_readBind_0 rfl (lv_at hl 0 rfl) ?_
  refine g_get C hw gC9_0 dX9_readBind_1 ?_
  refine lv_iconst (v := 0) hx hb dX9_readBind_4 ci_0 ?_
  refine lv_bipush (v := 9) hx hb dX9_readBind_5 cb_9 ?_
  obtain ⟨r7, iv7, ar7, la7, pA7, pB7, hc7, hm⟩ := obc_some hm
  refine g_calli (As := [.int 0, .int 9]) (rest := []) C hw (kX8_take hc7) mtX8_take lkX9_54 oC8 hl.1 rfl rfl (Nat.le_of_ble_eq_true rfl) ⟨Nat.le_of_ble_eq_true rfl, Nat.le_of_ble_eq_true rfl⟩ dX9_readBind_7 ⟨Nat.zero_le _, Nat.zero_le _⟩ (fun H locs hw => ?_)
  refine lv_if_ne (tgt := 15) hx hb dX9_readBind_10 (by decide) (fun hc => ?_) (fun hc => ?_)
  · have hm := it_f hc hm
    refine lv_aload_n hx hb dX9_readBind_15 rfl (lv_at hl 0 rfl) ?_
    refine lv_aload_n hx hb dX9_readBind_16 rfl (lv_at hl 0 rfl) ?_
    refine g_get C hw gC9_1 dX9_readBind_17 ?_
    obtain ⟨r20, iv20, ar20, la20, pA20, pB20, hc20, hm⟩ := obc_some hm
    refine g_calli (As := []) (rest := [.ref (oc 9)]) C hw (kX3_size hc20) mtX3_size lkX9_75 oC3 hl.1 rfl rfl (Nat.le_of_ble_eq_true rfl) ⟨Nat.le_of_ble_eq_true rfl, Nat.le_of_ble_eq_true rfl⟩ dX9_readBind_20 ⟨Nat.zero_le _, Nat.zero_le _⟩ (fun H locs hw => ?_)
    refine lv_aload_n hx hb dX9_readBind_23 rfl (lv_at hl 0 rfl) ?_
    refine g_get C hw gC9_0 dX9_readBind_24 ?_
    obtain ⟨r27, iv27, ar27, la27, pA27, pB27, hc27, hm⟩ := obc_some hm
    refine g_calli (As := []) (rest := [.int r20, .ref (oc 9)]) C hw (kX8_taken hc27) mtX8_taken lkX9_58 oC8 hl.1 rfl rfl (Nat.le_of_ble_eq_true rfl) ⟨Nat.le_of_ble_eq_true rfl, Nat.le_of_ble_eq_true rfl⟩ dX9_readBind_27 ⟨Nat.zero_le _, Nat.zero_le _⟩ (fun H locs hw => ?_)
    refine lv_iconst (v := 1) hx hb dX9_readBind_30 ci_1 ?_
    obtain ⟨r31, iv31, ar31, la31, pA31, pB31, hc31, hm⟩ := obc_some hm
    refine g_callv (As := [.int r20, .int r27, .int 1]) (rest := []) C hw (kX9_push hc31) mtX9_push lkX9_78 oC9 hl.1 rfl rfl (Nat.le_of_ble_eq_true rfl) ⟨Nat.le_of_ble_eq_true rfl, Nat.le_of_ble_eq_true rfl⟩ dX9_readBind_31 ⟨Nat.zero_le _, Nat.zero_le _⟩ (fun H locs hw => ?_)
    refine lv_iconst (v := 1) hx hb dX9_readBind_34 ci_1 ?_
    cases hm
    exact g_zret C hw (Or.inr rfl) dX9_readBind_35
  · have hm := it_t hc hm
    refine lv_iconst (v := 0) hx hb dX9_readBind_13 ci_0 ?_
    cases hm
    exact g_zret C hw (Or.inl rfl) dX9_readBind_14
def mX3_setPart (a1 : Int32) (a2 : Int32) (a3 : Int32) (iv : mI) (ar : mA) (la : mL) (pA : mA) (pB : mA) : Option (Int32 × mI × mA × mL × mA × mA) := if a1 < 0 then some (0, iv, ar, la, pA, pB) else if (iv 303) ≤ a1 then some (0, iv, ar, la, pA, pB) else if a2 < 0 then some (0, iv, ar, la, pA, pB) else if 8 ≤ a2 then some (0, iv, ar, la, pA, pB) else if a1 < 0 ∨ 400 ≤ a1.toNatClampNeg then none else if a1 < 0 ∨ 400 ≤ a1.toNatClampNeg then none else if ((a1 * 8) + a2) < 0 ∨ 3200 ≤ ((a1 * 8) + a2).toNatClampNeg then none else some (0, iv, au (au ar 301 a1.toNatClampNeg ((ar 301 a1.toNatClampNeg) ||| (1 <<< (a2 &&& 31)))) 302 ((a1 * 8) + a2).toNatClampNeg a3, la, pA, pB)
set_option maxRecDepth 100000 in
set_option maxHeartbeats 4000000 in
theorem kX3_setPart {a1 a2 a3 : Int32} {iv ivz : mI} {ar arz : mA} {la laz : mL} {pA pAz : mA} {pB pBz : mA} {rz : Int32} (hm : mX3_setPart a1 a2 a3 iv ar la pA pB = some (rz, ivz, arz, laz, pAz, pBz)) : CtV l D cI cJ yX3_setPart cX3_setPart 4 0 0 [.ref (oc 3), .int a1, .int a2, .int a3] (wC cI cJ oc ac pa pb aa ab xp xs tp cp mp iv ar la pA pB) (wC cI cJ oc ac pa pb aa ab xp xs tp cp mp ivz arz laz pAz pBz) := by
  intro sz
  refine ct_of (by decide) (Nat.le_of_ble_eq_true rfl) ?_
  intro p e s m args below meth c C hw ls hl
  have hl : lv_has ls 4 [(0, .ref (oc 3)), (1, .int a1), (2, .int a2), (3, .int a3)] := hl
  have hx := C.1.1
  have hb := C.1.2.1
  unfold mX3_setPart at hm
  refine lv_iload_n hx hb dX3_setPart_0 rfl (lv_at hl 1 rfl) ?_
  refine lv_if_lt (tgt := 46) hx hb dX3_setPart_1 (by decide) (fun hc => ?_) (fun hc => ?_)
  · have hm := it_t hc hm
    cases hm
    exact g_vret C hw dX3_setPart_46
  · have hm := it_f hc hm
    refine lv_iload_n hx hb dX3_setPart_4 rfl (lv_at hl 1 rfl) ?_
    refine lv_aload_n hx hb dX3_setPart_5 rfl (lv_at hl 0 rfl) ?_
    refine g_get C hw gC3_3 dX3_setPart_6 ?_
    refine lv_icmp_ge (tgt := 46) hx hb dX3_setPart_9 (by decide) (fun hc => ?_) (fun hc => ?_)
    · have hm := it_t hc hm
      cases hm
      exact g_vret C hw dX3_setPart_46
    · have hm := it_f hc hm
      refine lv_iload_n hx hb dX3_setPart_12 rfl (lv_at hl 2 rfl) ?_
      refine lv_if_lt (tgt := 46) hx hb dX3_setPart_13 (by decide) (fun hc => ?_) (fun hc => ?_)
      · have hm := it_t hc hm
        cases hm
        exact g_vret C hw dX3_setPart_46
      · have hm := it_f hc hm
        refine lv_iload_n hx hb dX3_setPart_16 rfl (lv_at hl 2 rfl) ?_
        refine lv_bipush (v := 8) hx hb dX3_setPart_17 cb_8 ?_
        refine lv_icmp_ge (tgt := 46) hx hb dX3_setPart_19 (by decide) (fun hc => ?_) (fun hc => ?_)
        · have hm := it_t hc hm
          cases hm
          exact g_vret C hw dX3_setPart_46
        · have hm := it_f hc hm
          refine lv_aload_n hx hb dX3_setPart_22 rfl (lv_at hl 0 rfl) ?_
          refine g_get C hw gC3_1 dX3_setPart_23 ?_
          refine lv_iload_n hx hb dX3_setPart_26 rfl (lv_at hl 1 rfl) ?_
          refine lv_dup2_11 hx hb dX3_setPart_27 rfl rfl ?_
          obtain ⟨hi, hm⟩ := it_a hm
          refine g_ald C hw aC3_1 hi dX3_setPart_28 ?_
          refine lv_iconst (v := 1) hx hb dX3_setPart_29 ci_1 ?_
          refine lv_iload_n hx hb dX3_setPart_30 rfl (lv_at hl 2 rfl) ?_
          refine lv_ishl hx hb dX3_setPart_31 ?_
          refine lv_ior hx hb dX3_setPart_32 ?_
          obtain ⟨hi, hm⟩ := it_a hm
          refine g_ast C hw sC3_1 hi dX3_setPart_33 (fun H locs hw => ?_)
          refine lv_aload_n hx hb dX3_setPart_34 rfl (lv_at hl 0 rfl) ?_
          refine g_get C hw gC3_2 dX3_setPart_35 ?_
          refine lv_iload_n hx hb dX3_setPart_38 rfl (lv_at hl 1 rfl) ?_
          refine lv_bipush (v := 8) hx hb dX3_setPart_39 cb_8 ?_
          refine lv_imul hx hb dX3_setPart_41 ?_
          refine lv_iload_n hx hb dX3_setPart_42 rfl (lv_at hl 2 rfl) ?_
          refine lv_iadd hx hb dX3_setPart_43 ?_
          refine lv_iload_n hx hb dX3_setPart_44 rfl (lv_at hl 3 rfl) ?_
          obtain ⟨hi, hm⟩ := it_a hm
          refine g_ast C hw sC3_2 hi dX3_setPart_45 (fun H locs hw => ?_)
          cases hm
          exact g_vret C hw dX3_setPart_46
def mX9_settle_J50 (k9 : Int32 → Int32 → mI → mA → mL → mA → mA → Option (Int32 × mI × mA × mL × mA × mA)) (l2 : Int32) (l3 : Int32) (iv : mI) (ar : mA) (la : mL) (pA : mA) (pB : mA) : Option (Int32 × mI × mA × mL × mA × mA) := if l3 < 0 ∨ 200 ≤ l3.toNatClampNeg then none else if l3 < 0 ∨ 200 ≤ l3.toNatClampNeg then none else if l3 < 0 ∨ 200 ≤ l3.toNatClampNeg then none else if ((au ar 904 l3.toNatClampNeg ((ar 904 l3.toNatClampNeg) - 1)) 904 l3.toNatClampNeg) ≤ 0 then k9 l2 (l3 + (-1)) (va_up iv 906 l3) (au ar 904 l3.toNatClampNeg ((ar 904 l3.toNatClampNeg) - 1)) la pA pB else some (0, iv, au ar 904 l3.toNatClampNeg ((ar 904 l3.toNatClampNeg) - 1), la, pA, pB)
set_option maxRecDepth 100000 in
set_option maxHeartbeats 4000000 in
theorem wX9_settle_J50 {k9 : Int32 → Int32 → mI → mA → mL → mA → mA → Option (Int32 × mI × mA × mL × mA × mA)} (C : mCx p s m args meth c RX9 cX9_settle 4 none D cI cJ A) (hk9 : ∀ (l2 : Int32) (l3 : Int32) (iv : mI) (ar : mA) (la : mL) (pA : mA) (pB : mA) (rz : Int32) (ivz : mI) (arz : mA) (laz : mL) (pAz : mA) (pBz : mA), k9 l2 l3 iv ar la pA pB = some (rz, ivz, arz, laz, pAz, pBz) → ∀ (H : Heap) (locs : List Loc) (ls : Array Slot), lv_has ls 4 [(0, .ref (oc 9)), (2, .int l2), (3, .int l3)] → inW D A s (wC cI cJ oc ac pa pb aa ab xp xs tp cp mp iv ar la pA pB) H locs → W p l e (rmO 1 23) s m args below meth c H locs 0 0 (MQ below (ctQv D cI cJ (wC cI cJ oc ac pa pb aa ab xp xs tp cp mp ivz arz laz pAz pBz) A) args s 0 0 A) (F0 m 9 ls [])) : ∀ (l2 : Int32) (l3 : Int32) (iv : mI) (ar : mA) (la : mL) (pA : mA) (pB : mA) (rz : Int32) (ivz : mI) (arz : mA) (laz : mL) (pAz : mA) (pBz : mA), mX9_settle_J50 k9 l2 l3 iv ar la pA pB = some (rz, ivz, arz, laz, pAz, pBz) → ∀ (H : Heap) (locs : List Loc) (ls : Array Slot), lv_has ls 4 [(0, .ref (oc 9)), (2, .int l2), (3, .int l3)] → inW D A s (wC cI cJ oc ac pa pb aa ab xp xs tp cp mp iv ar la pA pB) H locs → W p l e (rmO 1 23) s m args below meth c H locs 0 0 (MQ below (ctQv D cI cJ (wC cI cJ oc ac pa pb aa ab xp xs tp cp mp ivz arz laz pAz pBz) A) args s 0 0 A) (F0 m 50 ls []) := by
  intro l2 l3 iv ar la pA pB rz ivz arz laz pAz pBz hm H locs ls hl hw
  have hx := C.1.1
  have hb := C.1.2.1
  unfold mX9_settle_J50 at hm
  refine lv_aload_n hx hb dX9_settle_50 rfl (lv_at hl 0 rfl) ?_
  refine g_get C hw gC9_4 dX9_settle_51 ?_
  refine lv_iload_n hx hb dX9_settle_54 rfl (lv_at hl 2 rfl) ?_
  refine lv_dup2_11 hx hb dX9_settle_55 rfl rfl ?_
  obtain ⟨hi, hm⟩ := it_a hm
  refine g_ald C hw aC9_4 hi dX9_settle_56 ?_
  refine lv_iconst (v := 1) hx hb dX9_settle_57 ci_1 ?_
  refine lv_isub hx hb dX9_settle_58 ?_
  obtain ⟨hi, hm⟩ := it_a hm
  refine g_ast C hw sC9_4 hi dX9_settle_59 (fun H locs hw => ?_)
  refine lv_aload_n hx hb dX9_settle_60 rfl (lv_at hl 0 rfl) ?_
  refine g_get C hw gC9_4 dX9_settle_61 ?_
  refine lv_iload_n hx hb dX9_settle_64 rfl (lv_at hl 2 rfl) ?_
  obtain ⟨hi, hm⟩ := it_a hm
  refine g_ald C hw aC9_4 hi dX9_settle_65 ?_
  refine lv_if_le (tgt := 70) hx hb dX9_settle_66 (by decide) (fun hc => ?_) (fun hc => ?_)
  · have hm := it_t hc hm
    refine lv_aload_n hx hb dX9_settle_70 rfl (lv_at hl 0 rfl) ?_
    refine lv_iload_n hx hb dX9_settle_71 rfl (lv_at hl 2 rfl) ?_
    refine g_put C hw pC9_6 dX9_settle_72 (fun H locs hw => ?_)
    refine lv_iinc (v := (l3 + (-1))) (lv' := [(3, .int (l3 + (-1))), (0, .ref (oc 9)), (2, .int l2)]) hx hb dX9_settle_75 hl (k := 2) rfl (ii_ ci_m1) (by decide) rfl (fun ls hl => ?_)
    refine lv_goto (tgt := 9) hx hb dX9_settle_78 (by decide) ?_
    exact hk9 _ _ _ _ _ _ _ _ _ _ _ _ _ hm _ _ _ (lv_sub hl [1, 2, 0] rfl) hw
  · have hm := it_f hc hm
    cases hm
    exact g_vret C hw dX9_settle_69
def mX9_settle_L9 : Nat → Int32 → Int32 → mI → mA → mL → mA → mA → Option (Int32 × mI × mA × mL × mA × mA)
  | 0, _, _, _, _, _, _, _ => none
  | n + 1, l2, l3, iv, ar, la, pA, pB => if l3 < 0 then some (0, iv, ar, la, pA, pB) else if l3 < 0 ∨ 200 ≤ l3.toNatClampNeg then none else if (ar 903 l3.toNatClampNeg) = (-1) then if l3 < 0 ∨ 200 ≤ l3.toNatClampNeg then none else if l3 < 0 ∨ 200 ≤ l3.toNatClampNeg then none else obc (mX3_setPart (ar 902 l3.toNatClampNeg) (ar 905 l3.toNatClampNeg) l2 iv ar la pA pB) (fun r40 iv40 ar40 la40 pA40 pB40 => if l3 < 0 ∨ 200 ≤ l3.toNatClampNeg then none else mX9_settle_J50 (mX9_settle_L9 n) (ar40 902 l3.toNatClampNeg) l3 iv40 ar40 la40 pA40 pB40) else mX9_settle_J50 (mX9_settle_L9 n) l2 l3 iv ar la pA pB
set_option maxRecDepth 100000 in
set_option maxHeartbeats 4000000 in
theorem wX9_settle_L9 (C : mCx p s m args meth c RX9 cX9_settle 4 none D cI cJ A) (n : Nat) : ∀ (l2 : Int32) (l3 : Int32) (iv : mI) (ar : mA) (la : mL) (pA : mA) (pB : mA) (rz : Int32) (ivz : mI) (arz : mA) (laz : mL) (pAz : mA) (pBz : mA), mX9_settle_L9 n l2 l3 iv ar la pA pB = some (rz, ivz, arz, laz, pAz, pBz) → ∀ (H : Heap) (locs : List Loc) (ls : Array Slot), lv_has ls 4 [(0, .ref (oc 9)), (2, .int l2), (3, .int l3)] → inW D A s (wC cI cJ oc ac pa pb aa ab xp xs tp cp mp iv ar la pA pB) H locs → W p l e (rmO 1 23) s m args below meth c H locs 0 0 (MQ below (ctQv D cI cJ (wC cI cJ oc ac pa pb aa ab xp xs tp cp mp ivz arz laz pAz pBz) A) args s 0 0 A) (F0 m 9 ls []) := by
  induction n with
  | zero =>
    intro l2 l3 iv ar la pA pB rz ivz arz laz pAz pBz hm H locs ls hl hw
    have hm : (none : Option (Int32 × mI × mA × mL × mA × mA)) = some _ := hm
    cases hm
  | succ n ih =>
    intro l2 l3 iv ar la pA pB rz ivz arz laz pAz pBz hm H locs ls hl hw
    have hx := C.1.1
    have hb := C.1.2.1
    unfold mX9_settle_L9 at hm
    refine lv_iload_n hx hb dX9_settle_9 rfl (lv_at hl 2 rfl) ?_
    refine lv_if_lt (tgt := 81) hx hb dX9_settle_10 (by decide) (fun hc => ?_) (fun hc => ?_)
    · have hm := it_t hc hm
      cases hm
      exact g_vret C hw dX9_settle_81
    · have hm := it_f hc hm
      refine lv_aload_n hx hb dX9_settle_13 rfl (lv_at hl 0 rfl) ?_
      refine g_get C hw gC9_3 dX9_settle_14 ?_
      refine lv_iload_n hx hb dX9_settle_17 rfl (lv_at hl 2 rfl) ?_
      obtain ⟨hi, hm⟩ := it_a hm
      refine g_ald C hw aC9_3 hi dX9_settle_18 ?_
      refine lv_iconst (v := (-1)) hx hb dX9_settle_19 ci_m1 ?_
      refine lv_icmp_ne (tgt := 50) hx hb dX9_settle_20 (by decide) (fun hc => ?_) (fun hc => ?_)
      · have hm := it_f hc hm
        exact wX9_settle_J50 C ih _ _ _ _ _ _ _ _ _ _ _ _ _ hm _ _ _ (lv_sub hl [0, 1, 2] rfl) hw
      · have hm := it_t hc hm
        refine lv_aload_n hx hb dX9_settle_23 rfl (lv_at hl 0 rfl) ?_
        refine g_get C hw gC9_1 dX9_settle_24 ?_
        refine lv_aload_n hx hb dX9_settle_27 rfl (lv_at hl 0 rfl) ?_
        refine g_get C hw gC9_2 dX9_settle_28 ?_
        refine lv_iload_n hx hb dX9_settle_31 rfl (lv_at hl 2 rfl) ?_
        obtain ⟨hi, hm⟩ := it_a hm
        refine g_ald C hw aC9_2 hi dX9_settle_32 ?_
        refine lv_aload_n hx hb dX9_settle_33 rfl (lv_at hl 0 rfl) ?_
        refine g_get C hw gC9_5 dX9_settle_34 ?_
        refine lv_iload_n hx hb dX9_settle_37 rfl (lv_at hl 2 rfl) ?_
        obtain ⟨hi, hm⟩ := it_a hm
        refine g_ald C hw aC9_5 hi dX9_settle_38 ?_
        refine lv_iload_n hx hb dX9_settle_39 rfl (lv_at hl 1 rfl) ?_
        obtain ⟨r40, iv40, ar40, la40, pA40, pB40, hc40, hm⟩ := obc_some hm
        refine g_callv (As := [.int (ar 902 l3.toNatClampNeg), .int (ar 905 l3.toNatClampNeg), .int l2]) (rest := []) C hw (kX3_setPart hc40) mtX3_setPart lkX9_92 oC3 hl.1 rfl rfl (Nat.le_of_ble_eq_true rfl) ⟨Nat.le_of_ble_eq_true rfl, Nat.le_of_ble_eq_true rfl⟩ dX9_settle_40 ⟨Nat.zero_le _, Nat.zero_le _⟩ (fun H locs hw => ?_)
        refine lv_aload_n hx hb dX9_settle_43 rfl (lv_at hl 0 rfl) ?_
        refine g_get C hw gC9_2 dX9_settle_44 ?_
        refine lv_iload_n hx hb dX9_settle_47 rfl (lv_at hl 2 rfl) ?_
        obtain ⟨hi, hm⟩ := it_a hm
        refine g_ald C hw aC9_2 hi dX9_settle_48 ?_
        refine lv_istore_n (lv' := [(2, .int (ar40 902 l3.toNatClampNeg)), (0, .ref (oc 9)), (3, .int l3)]) hx hb dX9_settle_49 rfl hl (by decide) rfl (fun ls hl => ?_)
        exact wX9_settle_J50 C ih _ _ _ _ _ _ _ _ _ _ _ _ _ hm _ _ _ (lv_sub hl [1, 0, 2] rfl) hw
def mX9_settle (a1 : Int32) (iv : mI) (ar : mA) (la : mL) (pA : mA) (pB : mA) : Option (Int32 × mI × mA × mL × mA × mA) := mX9_settle_L9 bigF a1 ((iv 906) - 1) iv ar la pA pB
set_option maxRecDepth 100000 in
set_option maxHeartbeats 4000000 in
theorem kX9_settle {a1 : Int32} {iv ivz : mI} {ar arz : mA} {la laz : mL} {pA pAz : mA} {pB pBz : mA} {rz : Int32} (hm : mX9_settle a1 iv ar la pA pB = some (rz, ivz, arz, laz, pAz, pBz)) : CtV l D cI cJ yX9_settle cX9_settle 4 1 23 [.ref (oc 9), .int a1] (wC cI cJ oc ac pa pb aa ab xp xs tp cp mp iv ar la pA pB) (wC cI cJ oc ac pa pb aa ab xp xs tp cp mp ivz arz laz pAz pBz) := by
  intro sz
  refine ct_of (by decide) (Nat.le_of_ble_eq_true rfl) ?_
  intro p e s m args below meth c C hw ls hl
  have hl : lv_has ls 4 [(0, .ref (oc 9)), (1, .int a1)] := hl
  have hx := C.1.1
  have hb := C.1.2.1
  unfold mX9_settle at hm
  refine lv_iload_n hx hb dX9_settle_0 rfl (lv_at hl 1 rfl) ?_
  refine lv_istore_n (lv' := [(2, .int a1), (0, .ref (oc 9)), (1, .int a1)]) hx hb dX9_settle_1 rfl hl (by decide) rfl (fun ls hl => ?_)
  refine lv_aload_n hx hb dX9_settle_2 rfl (lv_at hl 1 rfl) ?_
  refine g_get C hw gC9_6 dX9_settle_3 ?_
  refine lv_iconst (v := 1) hx hb dX9_settle_6 ci_1 ?_
  refine lv_isub hx hb dX9_settle_7 ?_
  refine lv_istore_n (lv' := [(3, .int ((iv 906) - 1)), (2, .int a1), (0, .ref (oc 9)), (1, .int a1)]) hx hb dX9_settle_8 rfl hl (by decide) rfl (fun ls hl => ?_)
  exact wX9_settle_L9 C bigF _ _ _ _ _ _ _ _ _ _ _ _ _ hm _ _ _ (lv_sub hl [2, 1, 0] rfl) hw
def mX9_readStand_J48 (l1 : Int32) (l2 : Int32) (iv : mI) (ar : mA) (la : mL) (pA : mA) (pB : mA) : Option (Int32 × mI × mA × mL × mA × mA) := if l2 < 0 then obc (mX8_fail (-13) l1 iv ar la pA pB) (fun r75 iv75 ar75 la75 pA75 pB75 => if r75 = 0 ∨ r75 = 1 then some (r75, iv75, ar75, la75, pA75, pB75) else none) else if l2 < 0 ∨ 200 ≤ l2.toNatClampNeg then none else obc (mX3_size iv ar la pA pB) (fun r62 iv62 ar62 la62 pA62 pB62 => if (ar 902 l2.toNatClampNeg) < r62 then if l2 < 0 ∨ 200 ≤ l2.toNatClampNeg then none else obc (mX9_settle (ar62 902 l2.toNatClampNeg) iv62 ar62 la62 pA62 pB62) (fun r86 iv86 ar86 la86 pA86 pB86 => some (1, iv86, ar86, la86, pA86, pB86)) else obc (mX8_fail (-13) l1 iv62 ar62 la62 pA62 pB62) (fun r75 iv75 ar75 la75 pA75 pB75 => if r75 = 0 ∨ r75 = 1 then some (r75, iv75, ar75, la75, pA75, pB75) else none))
set_option maxRecDepth 100000 in
set_option maxHeartbeats 4000000 in
theorem wX9_readStand_J48 (C : mCx p s m args meth c RX9 cX9_readStand 3 (some .boolean) D cI cJ A) : ∀ (l1 : Int32) (l2 : Int32) (iv : mI) (ar : mA) (la : mL) (pA : mA) (pB : mA) (rz : Int32) (ivz : mI) (arz : mA) (laz : mL) (pAz : mA) (pBz : mA), mX9_readStand_J48 l1 l2 iv ar la pA pB = some (rz, ivz, arz, laz, pAz, pBz) → ∀ (H : Heap) (locs : List Loc) (ls : Array Slot), lv_has ls 3 [(0, .ref (oc 9)), (1, .int l1), (2, .int l2)] → inW D A s (wC cI cJ oc ac pa pb aa ab xp xs tp cp mp iv ar la pA pB) H locs → W p l e (rmO 2 46) s m args below meth c H locs 0 0 (MQ below (ctQ D cI cJ (wC cI cJ oc ac pa pb aa ab xp xs tp cp mp ivz arz laz pAz pBz) A rz) args s 0 0 A) (F0 m 48 ls []) := by
  intro l1 l2 iv ar la pA pB rz ivz arz laz pAz pBz hm H locs ls hl hw
  have hx := C.1.1
  have hb := C.1.2.1
  unfold mX9_readStand_J48 at hm
  refine lv_iload_n hx hb dX9_readStand_48 rfl (lv_at hl 2 rfl) ?_
  refine lv_if_lt (tgt := 68) hx hb dX9_readStand_49 (by decide) (fun hc => ?_) (fun hc => ?_)
  · have hm := it_t hc hm
    refine lv_aload_n hx hb dX9_readStand_68 rfl (lv_at hl 0 rfl) ?_
    refine g_get C hw gC9_0 dX9_readStand_69 ?_
    refine lv_bipush (v := (-13)) hx hb dX9_readStand_72 cb_m13 ?_
    refine lv_iload_n hx hb dX9_readStand_74 rfl (lv_at hl 1 rfl) ?_
    obtain ⟨r75, iv75, ar75, la75, pA75, pB75, hc75, hm⟩ := obc_some hm
    refine g_calli (As := [.int (-13), .int l1]) (rest := []) C hw (kX8_fail hc75) mtX8_fail lkX9_82 oC8 hl.1 rfl rfl (Nat.le_of_ble_eq_true rfl) ⟨Nat.le_of_ble_eq_true rfl, Nat.le_of_ble_eq_true rfl⟩ dX9_readStand_75 ⟨Nat.zero_le _, Nat.zero_le _⟩ (fun H locs hw => ?_)
    obtain ⟨hz, hm⟩ := it_z hm
    cases hm
    exact g_zret C hw hz dX9_readStand_78
  · have hm := it_f hc hm
    refine lv_aload_n hx hb dX9_readStand_52 rfl (lv_at hl 0 rfl) ?_
    refine g_get C hw gC9_2 dX9_readStand_53 ?_
    refine lv_iload_n hx hb dX9_readStand_56 rfl (lv_at hl 2 rfl) ?_
    obtain ⟨hi, hm⟩ := it_a hm
    refine g_ald C hw aC9_2 hi dX9_readStand_57 ?_
    refine lv_aload_n hx hb dX9_readStand_58 rfl (lv_at hl 0 rfl) ?_
    refine g_get C hw gC9_1 dX9_readStand_59 ?_
    obtain ⟨r62, iv62, ar62, la62, pA62, pB62, hc62, hm⟩ := obc_some hm
    refine g_calli (As := []) (rest := [.int (ar 902 l2.toNatClampNeg)]) C hw (kX3_size hc62) mtX3_size lkX9_75 oC3 hl.1 rfl rfl (Nat.le_of_ble_eq_true rfl) ⟨Nat.le_of_ble_eq_true rfl, Nat.le_of_ble_eq_true rfl⟩ dX9_readStand_62 ⟨Nat.zero_le _, Nat.zero_le _⟩ (fun H locs hw => ?_)
    refine lv_icmp_lt (tgt := 79) hx hb dX9_readStand_65 (by decide) (fun hc => ?_) (fun hc => ?_)
    · have hm := it_t hc hm
      refine lv_aload_n hx hb dX9_readStand_79 rfl (lv_at hl 0 rfl) ?_
      refine lv_aload_n hx hb dX9_readStand_80 rfl (lv_at hl 0 rfl) ?_
      refine g_get C hw gC9_2 dX9_readStand_81 ?_
      refine lv_iload_n hx hb dX9_readStand_84 rfl (lv_at hl 2 rfl) ?_
      obtain ⟨hi, hm⟩ := it_a hm
      refine g_ald C hw aC9_2 hi dX9_readStand_85 ?_
      obtain ⟨r86, iv86, ar86, la86, pA86, pB86, hc86, hm⟩ := obc_some hm
      refine g_callv (As := [.int (ar62 902 l2.toNatClampNeg)]) (rest := []) C hw (kX9_settle hc86) mtX9_settle lkX9_85 oC9 hl.1 rfl rfl (Nat.le_of_ble_eq_true rfl) ⟨Nat.le_of_ble_eq_true rfl, Nat.le_of_ble_eq_true rfl⟩ dX9_readStand_86 ⟨Nat.zero_le _, Nat.zero_le _⟩ (fun H locs hw => ?_)
      refine lv_iconst (v := 1) hx hb dX9_readStand_89 ci_1 ?_
      cases hm
      exact g_zret C hw (Or.inr rfl) dX9_readStand_90
    · have hm := it_f hc hm
      refine lv_aload_n hx hb dX9_readStand_68 rfl (lv_at hl 0 rfl) ?_
      refine g_get C hw gC9_0 dX9_readStand_69 ?_
      refine lv_bipush (v := (-13)) hx hb dX9_readStand_72 cb_m13 ?_
      refine lv_iload_n hx hb dX9_readStand_74 rfl (lv_at hl 1 rfl) ?_
      obtain ⟨r75, iv75, ar75, la75, pA75, pB75, hc75, hm⟩ := obc_some hm
      refine g_calli (As := [.int (-13), .int l1]) (rest := []) C hw (kX8_fail hc75) mtX8_fail lkX9_82 oC8 hl.1 rfl rfl (Nat.le_of_ble_eq_true rfl) ⟨Nat.le_of_ble_eq_true rfl, Nat.le_of_ble_eq_true rfl⟩ dX9_readStand_75 ⟨Nat.zero_le _, Nat.zero_le _⟩ (fun H locs hw => ?_)
      obtain ⟨hz, hm⟩ := it_z hm
      cases hm
      exact g_zret C hw hz dX9_readStand_78
def mX9_readStand_L22 : Nat → Int32 → Int32 → mI → mA → mL → mA → mA → Option (Int32 × mI × mA × mL × mA × mA)
  | 0, _, _, _, _, _, _, _ => none
  | n + 1, l1, l2, iv, ar, la, pA, pB => if l2 < 0 then mX9_readStand_J48 l1 l2 iv ar la pA pB else if l2 < 0 ∨ 200 ≤ l2.toNatClampNeg then none else obc (mX8_taken iv ar la pA pB) (fun r36 iv36 ar36 la36 pA36 pB36 => if (ar 903 l2.toNatClampNeg) = r36 then mX9_readStand_J48 l1 l2 iv36 ar36 la36 pA36 pB36 else mX9_readStand_L22 n l1 (l2 + (-1)) iv36 ar36 la36 pA36 pB36)
set_option maxRecDepth 100000 in
set_option maxHeartbeats 4000000 in
theorem wX9_readStand_L22 (C : mCx p s m args meth c RX9 cX9_readStand 3 (some .boolean) D cI cJ A) (n : Nat) : ∀ (l1 : Int32) (l2 : Int32) (iv : mI) (ar : mA) (la : mL) (pA : mA) (pB : mA) (rz : Int32) (ivz : mI) (arz : mA) (laz : mL) (pAz : mA) (pBz : mA), mX9_readStand_L22 n l1 l2 iv ar la pA pB = some (rz, ivz, arz, laz, pAz, pBz) → ∀ (H : Heap) (locs : List Loc) (ls : Array Slot), lv_has ls 3 [(0, .ref (oc 9)), (1, .int l1), (2, .int l2)] → inW D A s (wC cI cJ oc ac pa pb aa ab xp xs tp cp mp iv ar la pA pB) H locs → W p l e (rmO 2 46) s m args below meth c H locs 0 0 (MQ below (ctQ D cI cJ (wC cI cJ oc ac pa pb aa ab xp xs tp cp mp ivz arz laz pAz pBz) A rz) args s 0 0 A) (F0 m 22 ls []) := by
  induction n with
  | zero =>
    intro l1 l2 iv ar la pA pB rz ivz arz laz pAz pBz hm H locs ls hl hw
    have hm : (none : Option (Int32 × mI × mA × mL × mA × mA)) = some _ := hm
    cases hm
  | succ n ih =>
    intro l1 l2 iv ar la pA pB rz ivz arz laz pAz pBz hm H locs ls hl hw
    have hx := C.1.1
    have hb := C.1.2.1
    unfold mX9_readStand_L22 at hm
    refine lv_iload_n hx hb dX9_readStand_22 rfl (lv_at hl 2 rfl) ?_
    refine lv_if_lt (tgt := 48) hx hb dX9_readStand_23 (by decide) (fun hc => ?_) (fun hc => ?_)
    · have hm := it_t hc hm
      exact wX9_readStand_J48 C _ _ _ _ _ _ _ _ _ _ _ _ _ hm _ _ _ (lv_sub hl [0, 1, 2] rfl) hw
    · have hm := it_f hc hm
      refine lv_aload_n hx hb dX9_readStand_26 rfl (lv_at hl 0 rfl) ?_
      refine g_get C hw gC9_3 dX9_readStand_27 ?_
      refine lv_iload_n hx hb dX9_readStand_30 rfl (lv_at hl 2 rfl) ?_
      obtain ⟨hi, hm⟩ := it_a hm
      refine g_ald C hw aC9_3 hi dX9_readStand_31 ?_
      refine lv_aload_n hx hb dX9_readStand_32 rfl (lv_at hl 0 rfl) ?_
      refine g_get C hw gC9_0 dX9_readStand_33 ?_
      obtain ⟨r36, iv36, ar36, la36, pA36, pB36, hc36, hm⟩ := obc_some hm
      refine g_calli (As := []) (rest := [.int (ar 903 l2.toNatClampNeg)]) C hw (kX8_taken hc36) mtX8_taken lkX9_58 oC8 hl.1 rfl rfl (Nat.le_of_ble_eq_true rfl) ⟨Nat.le_of_ble_eq_true rfl, Nat.le_of_ble_eq_true rfl⟩ dX9_readStand_36 ⟨Nat.zero_le _, Nat.zero_le _⟩ (fun H locs hw => ?_)
      refine lv_icmp_eq (tgt := 48) hx hb dX9_readStand_39 (by decide) (fun hc => ?_) (fun hc => ?_)
      · have hm := it_t hc hm
        exact wX9_readStand_J48 C _ _ _ _ _ _ _ _ _ _ _ _ _ hm _ _ _ (lv_sub hl [0, 1, 2] rfl) hw
      · have hm := it_f hc hm
        refine lv_iinc (v := (l2 + (-1))) (lv' := [(2, .int (l2 + (-1))), (0, .ref (oc 9)), (1, .int l1)]) hx hb dX9_readStand_42 hl (k := 2) rfl (ii_ ci_m1) (by decide) rfl (fun ls hl => ?_)
        refine lv_goto (tgt := 22) hx hb dX9_readStand_45 (by decide) ?_
        exact ih _ _ _ _ _ _ _ _ _ _ _ _ _ hm _ _ _ (lv_sub hl [1, 2, 0] rfl) hw
def mX9_readStand (a1 : Int32) (iv : mI) (ar : mA) (la : mL) (pA : mA) (pB : mA) : Option (Int32 × mI × mA × mL × mA × mA) := obc (mX8_take 0 9 iv ar la pA pB) (fun r7 iv7 ar7 la7 pA7 pB7 => if r7 = 0 then some (0, iv7, ar7, la7, pA7, pB7) else mX9_readStand_L22 bigF a1 ((iv7 906) - 1) iv7 ar7 la7 pA7 pB7)
set_option maxRecDepth 100000 in
set_option maxHeartbeats 4000000 in
theorem kX9_readStand {a1 : Int32} {iv ivz : mI} {ar arz : mA} {la laz : mL} {pA pAz : mA} {pB pBz : mA} {rz : Int32} (hm : mX9_readStand a1 iv ar la pA pB = some (rz, ivz, arz, laz, pAz, pBz)) : Ct l D cI cJ yX9_readStand cX9_readStand 3 (some .boolean) 2 46 [.ref (oc 9), .int a1] (wC cI cJ oc ac pa pb aa ab xp xs tp cp mp iv ar la pA pB) (wC cI cJ oc ac pa pb aa ab xp xs tp cp mp ivz arz laz pAz pBz) rz := by
  intro sz
  refine ct_of (by decide) (Nat.le_of_ble_eq_true rfl) ?_
  intro p e s m args below meth c C hw ls hl
  have hl : lv_has ls 3 [(0, .ref (oc 9)), (1, .int a1)] := hl
  have hx := C.1.1
  have hb := C.1.2.1
  unfold mX9_readStand at hm
  refine lv_aload_n hx hb dX9_readStand_0 rfl (lv_at hl 0 rfl) ?_
  refine g_get C hw gC9_0 dX9_readStand_1 ?_
  refine lv_iconst (v := 0) hx hb dX9_readStand_4 ci_0 ?_
  refine lv_bipush (v := 9) hx hb dX9_readStand_5 cb_9 ?_
  obtain ⟨r7, iv7, ar7, la7, pA7, pB7, hc7, hm⟩ := obc_some hm
  refine g_calli (As := [.int 0, .int 9]) (rest := []) C hw (kX8_take hc7) mtX8_take lkX9_54 oC8 hl.1 rfl rfl (Nat.le_of_ble_eq_true rfl) ⟨Nat.le_of_ble_eq_true rfl, Nat.le_of_ble_eq_true rfl⟩ dX9_readStand_7 ⟨Nat.zero_le _, Nat.zero_le _⟩ (fun H locs hw => ?_)
  refine lv_if_ne (tgt := 15) hx hb dX9_readStand_10 (by decide) (fun hc => ?_) (fun hc => ?_)
  · have hm := it_f hc hm
    refine lv_aload_n hx hb dX9_readStand_15 rfl (lv_at hl 0 rfl) ?_
    refine g_get C hw gC9_6 dX9_readStand_16 ?_
    refine lv_iconst (v := 1) hx hb dX9_readStand_19 ci_1 ?_
    refine lv_isub hx hb dX9_readStand_20 ?_
    refine lv_istore_n (lv' := [(2, .int ((iv7 906) - 1)), (0, .ref (oc 9)), (1, .int a1)]) hx hb dX9_readStand_21 rfl hl (by decide) rfl (fun ls hl => ?_)
    exact wX9_readStand_L22 C bigF _ _ _ _ _ _ _ _ _ _ _ _ _ hm _ _ _ (lv_sub hl [1, 2, 0] rfl) hw
  · have hm := it_t hc hm
    refine lv_iconst (v := 0) hx hb dX9_readStand_13 ci_0 ?_
    cases hm
    exact g_zret C hw (Or.inl rfl) dX9_readStand_14
def mX3_draft (a1 : Int32) (iv : mI) (ar : mA) (la : mL) (pA : mA) (pB : mA) : Option (Int32 × mI × mA × mL × mA × mA) := if (iv 303) < 400 then if (iv 303) < 0 ∨ 400 ≤ (iv 303).toNatClampNeg then none else if (iv 303) < 0 ∨ 400 ≤ (iv 303).toNatClampNeg then none else some ((((va_up iv 303 ((iv 303) + 1)) 303) - 1), va_up iv 303 ((iv 303) + 1), au (au ar 300 (iv 303).toNatClampNeg a1) 301 (iv 303).toNatClampNeg 0, la, pA, pB) else some ((-3), iv, ar, la, pA, pB)
set_option maxRecDepth 100000 in
set_option maxHeartbeats 4000000 in
theorem kX3_draft {a1 : Int32} {iv ivz : mI} {ar arz : mA} {la laz : mL} {pA pAz : mA} {pB pBz : mA} {rz : Int32} (hm : mX3_draft a1 iv ar la pA pB = some (rz, ivz, arz, laz, pAz, pBz)) : Ct l D cI cJ yX3_draft cX3_draft 2 (some .int) 0 0 [.ref (oc 3), .int a1] (wC cI cJ oc ac pa pb aa ab xp xs tp cp mp iv ar la pA pB) (wC cI cJ oc ac pa pb aa ab xp xs tp cp mp ivz arz laz pAz pBz) rz := by
  intro sz
  refine ct_of (by decide) (Nat.le_of_ble_eq_true rfl) ?_
  intro p e s m args below meth c C hw ls hl
  have hl : lv_has ls 2 [(0, .ref (oc 3)), (1, .int a1)] := hl
  have hx := C.1.1
  have hb := C.1.2.1
  unfold mX3_draft at hm
  refine lv_aload_n hx hb dX3_draft_0 rfl (lv_at hl 0 rfl) ?_
  refine g_get C hw gC3_3 dX3_draft_1 ?_
  refine lv_sipush (v := 400) hx hb dX3_draft_4 cs_400 ?_
  refine lv_icmp_lt (tgt := 13) hx hb dX3_draft_7 (by decide) (fun hc => ?_) (fun hc => ?_)
  · have hm := it_t hc hm
    refine lv_aload_n hx hb dX3_draft_13 rfl (lv_at hl 0 rfl) ?_
    refine g_get C hw gC3_0 dX3_draft_14 ?_
    refine lv_aload_n hx hb dX3_draft_17 rfl (lv_at hl 0 rfl) ?_
    refine g_get C hw gC3_3 dX3_draft_18 ?_
    refine lv_iload_n hx hb dX3_draft_21 rfl (lv_at hl 1 rfl) ?_
    obtain ⟨hi, hm⟩ := it_a hm
    refine g_ast C hw sC3_0 hi dX3_draft_22 (fun H locs hw => ?_)
    refine lv_aload_n hx hb dX3_draft_23 rfl (lv_at hl 0 rfl) ?_
    refine g_get C hw gC3_1 dX3_draft_24 ?_
    refine lv_aload_n hx hb dX3_draft_27 rfl (lv_at hl 0 rfl) ?_
    refine g_get C hw gC3_3 dX3_draft_28 ?_
    refine lv_iconst (v := 0) hx hb dX3_draft_31 ci_0 ?_
    obtain ⟨hi, hm⟩ := it_a hm
    refine g_ast C hw sC3_1 hi dX3_draft_32 (fun H locs hw => ?_)
    refine lv_aload_n hx hb dX3_draft_33 rfl (lv_at hl 0 rfl) ?_
    refine lv_dup hx hb dX3_draft_34 rfl ?_
    refine g_get C hw gC3_3 dX3_draft_35 ?_
    refine lv_iconst (v := 1) hx hb dX3_draft_38 ci_1 ?_
    refine lv_iadd hx hb dX3_draft_39 ?_
    refine g_put C hw pC3_3 dX3_draft_40 (fun H locs hw => ?_)
    refine lv_aload_n hx hb dX3_draft_43 rfl (lv_at hl 0 rfl) ?_
    refine g_get C hw gC3_3 dX3_draft_44 ?_
    refine lv_iconst (v := 1) hx hb dX3_draft_47 ci_1 ?_
    refine lv_isub hx hb dX3_draft_48 ?_
    cases hm
    exact g_iret C hw dX3_draft_49
  · have hm := it_f hc hm
    refine lv_bipush (v := (-3)) hx hb dX3_draft_10 cb_m3 ?_
    cases hm
    exact g_iret C hw dX3_draft_12
def mX9_readNode_J54 (l2 : Int32) (l3 : Int32) (iv : mI) (ar : mA) (la : mL) (pA : mA) (pB : mA) : Option (Int32 × mI × mA × mL × mA × mA) := if l3 ≤ 0 then obc (mX9_settle l2 iv ar la pA pB) (fun r70 iv70 ar70 la70 pA70 pB70 => some (1, iv70, ar70, la70, pA70, pB70)) else obc (mX9_push l2 (-1) l3 iv ar la pA pB) (fun r62 iv62 ar62 la62 pA62 pB62 => some (1, iv62, ar62, la62, pA62, pB62))
set_option maxRecDepth 100000 in
set_option maxHeartbeats 4000000 in
theorem wX9_readNode_J54 (C : mCx p s m args meth c RX9 cX9_readNode 4 (some .boolean) D cI cJ A) : ∀ (l2 : Int32) (l3 : Int32) (iv : mI) (ar : mA) (la : mL) (pA : mA) (pB : mA) (rz : Int32) (ivz : mI) (arz : mA) (laz : mL) (pAz : mA) (pBz : mA), mX9_readNode_J54 l2 l3 iv ar la pA pB = some (rz, ivz, arz, laz, pAz, pBz) → ∀ (H : Heap) (locs : List Loc) (ls : Array Slot), lv_has ls 4 [(0, .ref (oc 9)), (2, .int l2), (3, .int l3)] → inW D A s (wC cI cJ oc ac pa pb aa ab xp xs tp cp mp iv ar la pA pB) H locs → W p l e (rmO 2 46) s m args below meth c H locs 0 0 (MQ below (ctQ D cI cJ (wC cI cJ oc ac pa pb aa ab xp xs tp cp mp ivz arz laz pAz pBz) A rz) args s 0 0 A) (F0 m 54 ls []) := by
  intro l2 l3 iv ar la pA pB rz ivz arz laz pAz pBz hm H locs ls hl hw
  have hx := C.1.1
  have hb := C.1.2.1
  unfold mX9_readNode_J54 at hm
  refine lv_iload_n hx hb dX9_readNode_54 rfl (lv_at hl 2 rfl) ?_
  refine lv_if_le (tgt := 68) hx hb dX9_readNode_55 (by decide) (fun hc => ?_) (fun hc => ?_)
  · have hm := it_t hc hm
    refine lv_aload_n hx hb dX9_readNode_68 rfl (lv_at hl 0 rfl) ?_
    refine lv_iload_n hx hb dX9_readNode_69 rfl (lv_at hl 1 rfl) ?_
    obtain ⟨r70, iv70, ar70, la70, pA70, pB70, hc70, hm⟩ := obc_some hm
    refine g_callv (As := [.int l2]) (rest := []) C hw (kX9_settle hc70) mtX9_settle lkX9_85 oC9 hl.1 rfl rfl (Nat.le_of_ble_eq_true rfl) ⟨Nat.le_of_ble_eq_true rfl, Nat.le_of_ble_eq_true rfl⟩ dX9_readNode_70 ⟨Nat.zero_le _, Nat.zero_le _⟩ (fun H locs hw => ?_)
    refine lv_iconst (v := 1) hx hb dX9_readNode_73 ci_1 ?_
    cases hm
    exact g_zret C hw (Or.inr rfl) dX9_readNode_74
  · have hm := it_f hc hm
    refine lv_aload_n hx hb dX9_readNode_58 rfl (lv_at hl 0 rfl) ?_
    refine lv_iload_n hx hb dX9_readNode_59 rfl (lv_at hl 1 rfl) ?_
    refine lv_iconst (v := (-1)) hx hb dX9_readNode_60 ci_m1 ?_
    refine lv_iload_n hx hb dX9_readNode_61 rfl (lv_at hl 2 rfl) ?_
    obtain ⟨r62, iv62, ar62, la62, pA62, pB62, hc62, hm⟩ := obc_some hm
    refine g_callv (As := [.int l2, .int (-1), .int l3]) (rest := []) C hw (kX9_push hc62) mtX9_push lkX9_78 oC9 hl.1 rfl rfl (Nat.le_of_ble_eq_true rfl) ⟨Nat.le_of_ble_eq_true rfl, Nat.le_of_ble_eq_true rfl⟩ dX9_readNode_62 ⟨Nat.zero_le _, Nat.zero_le _⟩ (fun H locs hw => ?_)
    refine lv_goto (tgt := 73) hx hb dX9_readNode_65 (by decide) ?_
    refine lv_iconst (v := 1) hx hb dX9_readNode_73 ci_1 ?_
    cases hm
    exact g_zret C hw (Or.inr rfl) dX9_readNode_74
def mX9_readNode_J31 (l2 : Int32) (iv : mI) (ar : mA) (la : mL) (pA : mA) (pB : mA) : Option (Int32 × mI × mA × mL × mA × mA) := obc (mX8_take 0 8 iv ar la pA pB) (fun r38 iv38 ar38 la38 pA38 pB38 => if r38 = 0 then some (0, iv38, ar38, la38, pA38, pB38) else obc (mX8_taken iv38 ar38 la38 pA38 pB38) (fun r50 iv50 ar50 la50 pA50 pB50 => mX9_readNode_J54 l2 r50 iv50 ar50 la50 pA50 pB50))
set_option maxRecDepth 100000 in
set_option maxHeartbeats 4000000 in
theorem wX9_readNode_J31 (C : mCx p s m args meth c RX9 cX9_readNode 4 (some .boolean) D cI cJ A) : ∀ (l2 : Int32) (iv : mI) (ar : mA) (la : mL) (pA : mA) (pB : mA) (rz : Int32) (ivz : mI) (arz : mA) (laz : mL) (pAz : mA) (pBz : mA), mX9_readNode_J31 l2 iv ar la pA pB = some (rz, ivz, arz, laz, pAz, pBz) → ∀ (H : Heap) (locs : List Loc) (ls : Array Slot), lv_has ls 4 [(0, .ref (oc 9)), (2, .int l2)] → inW D A s (wC cI cJ oc ac pa pb aa ab xp xs tp cp mp iv ar la pA pB) H locs → W p l e (rmO 2 46) s m args below meth c H locs 0 0 (MQ below (ctQ D cI cJ (wC cI cJ oc ac pa pb aa ab xp xs tp cp mp ivz arz laz pAz pBz) A rz) args s 0 0 A) (F0 m 31 ls []) := by
  intro l2 iv ar la pA pB rz ivz arz laz pAz pBz hm H locs ls hl hw
  have hx := C.1.1
  have hb := C.1.2.1
  unfold mX9_readNode_J31 at hm
  refine lv_aload_n hx hb dX9_readNode_31 rfl (lv_at hl 0 rfl) ?_
  refine g_get C hw gC9_0 dX9_readNode_32 ?_
  refine lv_iconst (v := 0) hx hb dX9_readNode_35 ci_0 ?_
  refine lv_bipush (v := 8) hx hb dX9_readNode_36 cb_8 ?_
  obtain ⟨r38, iv38, ar38, la38, pA38, pB38, hc38, hm⟩ := obc_some hm
  refine g_calli (As := [.int 0, .int 8]) (rest := []) C hw (kX8_take hc38) mtX8_take lkX9_54 oC8 hl.1 rfl rfl (Nat.le_of_ble_eq_true rfl) ⟨Nat.le_of_ble_eq_true rfl, Nat.le_of_ble_eq_true rfl⟩ dX9_readNode_38 ⟨Nat.zero_le _, Nat.zero_le _⟩ (fun H locs hw => ?_)
  refine lv_if_ne (tgt := 46) hx hb dX9_readNode_41 (by decide) (fun hc => ?_) (fun hc => ?_)
  · have hm := it_f hc hm
    refine lv_aload_n hx hb dX9_readNode_46 rfl (lv_at hl 0 rfl) ?_
    refine g_get C hw gC9_0 dX9_readNode_47 ?_
    obtain ⟨r50, iv50, ar50, la50, pA50, pB50, hc50, hm⟩ := obc_some hm
    refine g_calli (As := []) (rest := []) C hw (kX8_taken hc50) mtX8_taken lkX9_58 oC8 hl.1 rfl rfl (Nat.le_of_ble_eq_true rfl) ⟨Nat.le_of_ble_eq_true rfl, Nat.le_of_ble_eq_true rfl⟩ dX9_readNode_50 ⟨Nat.zero_le _, Nat.zero_le _⟩ (fun H locs hw => ?_)
    refine lv_istore_n (lv' := [(3, .int r50), (0, .ref (oc 9)), (2, .int l2)]) hx hb dX9_readNode_53 rfl hl (by decide) rfl (fun ls hl => ?_)
    exact wX9_readNode_J54 C _ _ _ _ _ _ _ _ _ _ _ _ _ hm _ _ _ (lv_sub hl [1, 2, 0] rfl) hw
  · have hm := it_t hc hm
    refine lv_iconst (v := 0) hx hb dX9_readNode_44 ci_0 ?_
    cases hm
    exact g_zret C hw (Or.inl rfl) dX9_readNode_45
def mX9_readNode_J19 (l1 : Int32) (l2 : Int32) (s0 : Int32) (iv : mI) (ar : mA) (la : mL) (pA : mA) (pB : mA) : Option (Int32 × mI × mA × mL × mA × mA) := if l1 = 5 then mX9_readNode_J31 l2 iv ar la pA pB else if l1 = 6 then mX9_readNode_J31 l2 iv ar la pA pB else mX9_readNode_J54 l2 s0 iv ar la pA pB
set_option maxRecDepth 100000 in
set_option maxHeartbeats 4000000 in
theorem wX9_readNode_J19 (C : mCx p s m args meth c RX9 cX9_readNode 4 (some .boolean) D cI cJ A) : ∀ (l1 : Int32) (l2 : Int32) (s0 : Int32) (iv : mI) (ar : mA) (la : mL) (pA : mA) (pB : mA) (rz : Int32) (ivz : mI) (arz : mA) (laz : mL) (pAz : mA) (pBz : mA), mX9_readNode_J19 l1 l2 s0 iv ar la pA pB = some (rz, ivz, arz, laz, pAz, pBz) → ∀ (H : Heap) (locs : List Loc) (ls : Array Slot), lv_has ls 4 [(0, .ref (oc 9)), (1, .int l1), (2, .int l2)] → inW D A s (wC cI cJ oc ac pa pb aa ab xp xs tp cp mp iv ar la pA pB) H locs → W p l e (rmO 2 46) s m args below meth c H locs 0 0 (MQ below (ctQ D cI cJ (wC cI cJ oc ac pa pb aa ab xp xs tp cp mp ivz arz laz pAz pBz) A rz) args s 0 0 A) (F0 m 19 ls [.int s0]) := by
  intro l1 l2 s0 iv ar la pA pB rz ivz arz laz pAz pBz hm H locs ls hl hw
  have hx := C.1.1
  have hb := C.1.2.1
  unfold mX9_readNode_J19 at hm
  refine lv_istore_n (lv' := [(3, .int s0), (0, .ref (oc 9)), (1, .int l1), (2, .int l2)]) hx hb dX9_readNode_19 rfl hl (by decide) rfl (fun ls hl => ?_)
  refine lv_iload_n hx hb dX9_readNode_20 rfl (lv_at hl 2 rfl) ?_
  refine lv_iconst (v := 5) hx hb dX9_readNode_21 ci_5 ?_
  refine lv_icmp_eq (tgt := 31) hx hb dX9_readNode_22 (by decide) (fun hc => ?_) (fun hc => ?_)
  · have hm := it_t hc hm
    exact wX9_readNode_J31 C _ _ _ _ _ _ _ _ _ _ _ _ hm _ _ _ (lv_sub hl [1, 3] rfl) hw
  · have hm := it_f hc hm
    refine lv_iload_n hx hb dX9_readNode_25 rfl (lv_at hl 2 rfl) ?_
    refine lv_bipush (v := 6) hx hb dX9_readNode_26 cb_6 ?_
    refine lv_icmp_ne (tgt := 54) hx hb dX9_readNode_28 (by decide) (fun hc => ?_) (fun hc => ?_)
    · have hm := it_f hc hm
      exact wX9_readNode_J54 C _ _ _ _ _ _ _ _ _ _ _ _ _ hm _ _ _ (lv_sub hl [1, 3, 0] rfl) hw
    · have hm := it_t hc hm
      exact wX9_readNode_J31 C _ _ _ _ _ _ _ _ _ _ _ _ hm _ _ _ (lv_sub hl [1, 3] rfl) hw
def mX9_readNode (a1 : Int32) (iv : mI) (ar : mA) (la : mL) (pA : mA) (pB : mA) : Option (Int32 × mI × mA × mL × mA × mA) := obc (mX3_draft a1 iv ar la pA pB) (fun r5 iv5 ar5 la5 pA5 pB5 => if a1 = 4 then mX9_readNode_J19 a1 r5 2 iv5 ar5 la5 pA5 pB5 else mX9_readNode_J19 a1 r5 0 iv5 ar5 la5 pA5 pB5)
set_option maxRecDepth 100000 in
set_option maxHeartbeats 4000000 in
theorem kX9_readNode {a1 : Int32} {iv ivz : mI} {ar arz : mA} {la laz : mL} {pA pAz : mA} {pB pBz : mA} {rz : Int32} (hm : mX9_readNode a1 iv ar la pA pB = some (rz, ivz, arz, laz, pAz, pBz)) : Ct l D cI cJ yX9_readNode cX9_readNode 4 (some .boolean) 2 46 [.ref (oc 9), .int a1] (wC cI cJ oc ac pa pb aa ab xp xs tp cp mp iv ar la pA pB) (wC cI cJ oc ac pa pb aa ab xp xs tp cp mp ivz arz laz pAz pBz) rz := by
  intro sz
  refine ct_of (by decide) (Nat.le_of_ble_eq_true rfl) ?_
  intro p e s m args below meth c C hw ls hl
  have hl : lv_has ls 4 [(0, .ref (oc 9)), (1, .int a1)] := hl
  have hx := C.1.1
  have hb := C.1.2.1
  unfold mX9_readNode at hm
  refine lv_aload_n hx hb dX9_readNode_0 rfl (lv_at hl 0 rfl) ?_
  refine g_get C hw gC9_1 dX9_readNode_1 ?_
  refine lv_iload_n hx hb dX9_readNode_4 rfl (lv_at hl 1 rfl) ?_
  obtain ⟨r5, iv5, ar5, la5, pA5, pB5, hc5, hm⟩ := obc_some hm
  refine g_calli (As := [.int a1]) (rest := []) C hw (kX3_draft hc5) mtX3_draft lkX9_89 oC3 hl.1 rfl rfl (Nat.le_of_ble_eq_true rfl) ⟨Nat.le_of_ble_eq_true rfl, Nat.le_of_ble_eq_true rfl⟩ dX9_readNode_5 ⟨Nat.zero_le _, Nat.zero_le _⟩ (fun H locs hw => ?_)
  refine lv_istore_n (lv' := [(2, .int r5), (0, .ref (oc 9)), (1, .int a1)]) hx hb dX9_readNode_8 rfl hl (by decide) rfl (fun ls hl => ?_)
  refine lv_iload_n hx hb dX9_readNode_9 rfl (lv_at hl 2 rfl) ?_
  refine lv_iconst (v := 4) hx hb dX9_readNode_10 ci_4 ?_
  refine lv_icmp_ne (tgt := 18) hx hb dX9_readNode_11 (by decide) (fun hc => ?_) (fun hc => ?_)
  · have hm := it_f hc hm
    refine lv_iconst (v := 0) hx hb dX9_readNode_18 ci_0 ?_
    exact wX9_readNode_J19 C _ _ _ _ _ _ _ _ _ _ _ _ _ _ hm _ _ _ (lv_sub hl [1, 2, 0] rfl) hw
  · have hm := it_t hc hm
    refine lv_iconst (v := 2) hx hb dX9_readNode_14 ci_2 ?_
    refine lv_goto (tgt := 19) hx hb dX9_readNode_15 (by decide) ?_
    exact wX9_readNode_J19 C _ _ _ _ _ _ _ _ _ _ _ _ _ _ hm _ _ _ (lv_sub hl [1, 2, 0] rfl) hw
def mX9_readWord  (iv : mI) (ar : mA) (la : mL) (pA : mA) (pB : mA) : Option (Int32 × mI × mA × mL × mA × mA) := obc (mX8_at iv ar la pA pB) (fun r4 iv4 ar4 la4 pA4 pB4 => obc (mX8_take 1 9 iv4 ar4 la4 pA4 pB4) (fun r15 iv15 ar15 la15 pA15 pB15 => if r15 = 0 then some (0, iv15, ar15, la15, pA15, pB15) else obc (mX8_taken iv15 ar15 la15 pA15 pB15) (fun r27 iv27 ar27 la27 pA27 pB27 => if r27 = 8 then obc (mX9_readBind iv27 ar27 la27 pA27 pB27) (fun r38 iv38 ar38 la38 pA38 pB38 => if r38 = 0 ∨ r38 = 1 then some (r38, iv38, ar38, la38, pA38, pB38) else none) else if r27 = 9 then obc (mX9_readStand r4 iv27 ar27 la27 pA27 pB27) (fun r50 iv50 ar50 la50 pA50 pB50 => if r50 = 0 ∨ r50 = 1 then some (r50, iv50, ar50, la50, pA50, pB50) else none) else obc (mX9_readNode (r27 - 1) iv27 ar27 la27 pA27 pB27) (fun r60 iv60 ar60 la60 pA60 pB60 => if r60 = 0 ∨ r60 = 1 then some (r60, iv60, ar60, la60, pA60, pB60) else none))))
set_option maxRecDepth 100000 in
set_option maxHeartbeats 4000000 in
theorem kX9_readWord {iv ivz : mI} {ar arz : mA} {la laz : mL} {pA pAz : mA} {pB pBz : mA} {rz : Int32} (hm : mX9_readWord iv ar la pA pB = some (rz, ivz, arz, laz, pAz, pBz)) : Ct l D cI cJ yX9_readWord cX9_readWord 3 (some .boolean) 3 69 [.ref (oc 9)] (wC cI cJ oc ac pa pb aa ab xp xs tp cp mp iv ar la pA pB) (wC cI cJ oc ac pa pb aa ab xp xs tp cp mp ivz arz laz pAz pBz) rz := by
  intro sz
  refine ct_of (by decide) (Nat.le_of_ble_eq_true rfl) ?_
  intro p e s m args below meth c C hw ls hl
  have hl : lv_has ls 3 [(0, .ref (oc 9))] := hl
  have hx := C.1.1
  have hb := C.1.2.1
  unfold mX9_readWord at hm
  refine lv_aload_n hx hb dX9_readWord_0 rfl (lv_at hl 0 rfl) ?_
  refine g_get C hw gC9_0 dX9_readWord_1 ?_
  obtain ⟨r4, iv4, ar4, la4, pA4, pB4, hc4, hm⟩ := obc_some hm
  refine g_calli (As := []) (rest := []) C hw (kX8_at hc4) mtX8_at lkX9_62 oC8 hl.1 rfl rfl (Nat.le_of_ble_eq_true rfl) ⟨Nat.le_of_ble_eq_true rfl, Nat.le_of_ble_eq_true rfl⟩ dX9_readWord_4 ⟨Nat.zero_le _, Nat.zero_le _⟩ (fun H locs hw => ?_)
  refine lv_istore_n (lv' := [(1, .int r4), (0, .ref (oc 9))]) hx hb dX9_readWord_7 rfl hl (by decide) rfl (fun ls hl => ?_)
  refine lv_aload_n hx hb dX9_readWord_8 rfl (lv_at hl 1 rfl) ?_
  refine g_get C hw gC9_0 dX9_readWord_9 ?_
  refine lv_iconst (v := 1) hx hb dX9_readWord_12 ci_1 ?_
  refine lv_bipush (v := 9) hx hb dX9_readWord_13 cb_9 ?_
  obtain ⟨r15, iv15, ar15, la15, pA15, pB15, hc15, hm⟩ := obc_some hm
  refine g_calli (As := [.int 1, .int 9]) (rest := []) C hw (kX8_take hc15) mtX8_take lkX9_54 oC8 hl.1 rfl rfl (Nat.le_of_ble_eq_true rfl) ⟨Nat.le_of_ble_eq_true rfl, Nat.le_of_ble_eq_true rfl⟩ dX9_readWord_15 ⟨Nat.zero_le _, Nat.zero_le _⟩ (fun H locs hw => ?_)
  refine lv_if_ne (tgt := 23) hx hb dX9_readWord_18 (by decide) (fun hc => ?_) (fun hc => ?_)
  · have hm := it_f hc hm
    refine lv_aload_n hx hb dX9_readWord_23 rfl (lv_at hl 1 rfl) ?_
    refine g_get C hw gC9_0 dX9_readWord_24 ?_
    obtain ⟨r27, iv27, ar27, la27, pA27, pB27, hc27, hm⟩ := obc_some hm
    refine g_calli (As := []) (rest := []) C hw (kX8_taken hc27) mtX8_taken lkX9_58 oC8 hl.1 rfl rfl (Nat.le_of_ble_eq_true rfl) ⟨Nat.le_of_ble_eq_true rfl, Nat.le_of_ble_eq_true rfl⟩ dX9_readWord_27 ⟨Nat.zero_le _, Nat.zero_le _⟩ (fun H locs hw => ?_)
    refine lv_istore_n (lv' := [(2, .int r27), (1, .int r4), (0, .ref (oc 9))]) hx hb dX9_readWord_30 rfl hl (by decide) rfl (fun ls hl => ?_)
    refine lv_iload_n hx hb dX9_readWord_31 rfl (lv_at hl 0 rfl) ?_
    refine lv_bipush (v := 8) hx hb dX9_readWord_32 cb_8 ?_
    refine lv_icmp_ne (tgt := 42) hx hb dX9_readWord_34 (by decide) (fun hc => ?_) (fun hc => ?_)
    · have hm := it_f hc hm
      refine lv_iload_n hx hb dX9_readWord_42 rfl (lv_at hl 0 rfl) ?_
      refine lv_bipush (v := 9) hx hb dX9_readWord_43 cb_9 ?_
      refine lv_icmp_ne (tgt := 56) hx hb dX9_readWord_45 (by decide) (fun hc => ?_) (fun hc => ?_)
      · have hm := it_f hc hm
        refine lv_aload_n hx hb dX9_readWord_56 rfl (lv_at hl 2 rfl) ?_
        refine lv_iload_n hx hb dX9_readWord_57 rfl (lv_at hl 0 rfl) ?_
        refine lv_iconst (v := 1) hx hb dX9_readWord_58 ci_1 ?_
        refine lv_isub hx hb dX9_readWord_59 ?_
        obtain ⟨r60, iv60, ar60, la60, pA60, pB60, hc60, hm⟩ := obc_some hm
        refine g_calli (As := [.int (r27 - 1)]) (rest := []) C hw (kX9_readNode hc60) mtX9_readNode lkX9_72 oC9 hl.1 rfl rfl (Nat.le_of_ble_eq_true rfl) ⟨Nat.le_of_ble_eq_true rfl, Nat.le_of_ble_eq_true rfl⟩ dX9_readWord_60 ⟨Nat.zero_le _, Nat.zero_le _⟩ (fun H locs hw => ?_)
        obtain ⟨hz, hm⟩ := it_z hm
        cases hm
        exact g_zret C hw hz dX9_readWord_63
      · have hm := it_t hc hm
        refine lv_aload_n hx hb dX9_readWord_48 rfl (lv_at hl 2 rfl) ?_
        refine lv_iload_n hx hb dX9_readWord_49 rfl (lv_at hl 1 rfl) ?_
        obtain ⟨r50, iv50, ar50, la50, pA50, pB50, hc50, hm⟩ := obc_some hm
        refine g_calli (As := [.int r4]) (rest := []) C hw (kX9_readStand hc50) mtX9_readStand lkX9_68 oC9 hl.1 rfl rfl (Nat.le_of_ble_eq_true rfl) ⟨Nat.le_of_ble_eq_true rfl, Nat.le_of_ble_eq_true rfl⟩ dX9_readWord_50 ⟨Nat.zero_le _, Nat.zero_le _⟩ (fun H locs hw => ?_)
        refine lv_goto (tgt := 63) hx hb dX9_readWord_53 (by decide) ?_
        obtain ⟨hz, hm⟩ := it_z hm
        cases hm
        exact g_zret C hw hz dX9_readWord_63
    · have hm := it_t hc hm
      refine lv_aload_n hx hb dX9_readWord_37 rfl (lv_at hl 2 rfl) ?_
      obtain ⟨r38, iv38, ar38, la38, pA38, pB38, hc38, hm⟩ := obc_some hm
      refine g_calli (As := []) (rest := []) C hw (kX9_readBind hc38) mtX9_readBind lkX9_65 oC9 hl.1 rfl rfl (Nat.le_of_ble_eq_true rfl) ⟨Nat.le_of_ble_eq_true rfl, Nat.le_of_ble_eq_true rfl⟩ dX9_readWord_38 ⟨Nat.zero_le _, Nat.zero_le _⟩ (fun H locs hw => ?_)
      obtain ⟨hz, hm⟩ := it_z hm
      cases hm
      exact g_zret C hw hz dX9_readWord_41
  · have hm := it_t hc hm
    refine lv_iconst (v := 0) hx hb dX9_readWord_21 ci_0 ?_
    cases hm
    exact g_zret C hw (Or.inl rfl) dX9_readWord_22
def mX8_takeEnd  (iv : mI) (ar : mA) (la : mL) (pA : mA) (pB : mA) : Option (Int32 × mI × mA × mL × mA × mA) := if (iv 801) ≤ (iv 802) then some (1, iv, ar, la, pA, pB) else obc (mX8_fail (-14) (iv 802) iv ar la pA pB) (fun r18 iv18 ar18 la18 pA18 pB18 => if r18 = 0 then some (0, iv18, ar18, la18, pA18, pB18) else some (1, iv18, ar18, la18, pA18, pB18))
set_option maxRecDepth 100000 in
set_option maxHeartbeats 4000000 in
theorem kX8_takeEnd {iv ivz : mI} {ar arz : mA} {la laz : mL} {pA pAz : mA} {pB pBz : mA} {rz : Int32} (hm : mX8_takeEnd iv ar la pA pB = some (rz, ivz, arz, laz, pAz, pBz)) : Ct l D cI cJ yX8_takeEnd cX8_takeEnd 1 (some .boolean) 1 22 [.ref (oc 8)] (wC cI cJ oc ac pa pb aa ab xp xs tp cp mp iv ar la pA pB) (wC cI cJ oc ac pa pb aa ab xp xs tp cp mp ivz arz laz pAz pBz) rz := by
  intro sz
  refine ct_of (by decide) (Nat.le_of_ble_eq_true rfl) ?_
  intro p e s m args below meth c C hw ls hl
  have hl : lv_has ls 1 [(0, .ref (oc 8))] := hl
  have hx := C.1.1
  have hb := C.1.2.1
  unfold mX8_takeEnd at hm
  refine lv_aload_n hx hb dX8_takeEnd_0 rfl (lv_at hl 0 rfl) ?_
  refine g_get C hw gC8_2 dX8_takeEnd_1 ?_
  refine lv_aload_n hx hb dX8_takeEnd_4 rfl (lv_at hl 0 rfl) ?_
  refine g_get C hw gC8_1 dX8_takeEnd_5 ?_
  refine lv_icmp_ge (tgt := 24) hx hb dX8_takeEnd_8 (by decide) (fun hc => ?_) (fun hc => ?_)
  · have hm := it_t hc hm
    refine lv_iconst (v := 1) hx hb dX8_takeEnd_24 ci_1 ?_
    refine lv_goto (tgt := 29) hx hb dX8_takeEnd_25 (by decide) ?_
    cases hm
    exact g_zret C hw (Or.inr rfl) dX8_takeEnd_29
  · have hm := it_f hc hm
    refine lv_aload_n hx hb dX8_takeEnd_11 rfl (lv_at hl 0 rfl) ?_
    refine lv_bipush (v := (-14)) hx hb dX8_takeEnd_12 cb_m14 ?_
    refine lv_aload_n hx hb dX8_takeEnd_14 rfl (lv_at hl 0 rfl) ?_
    refine g_get C hw gC8_2 dX8_takeEnd_15 ?_
    obtain ⟨r18, iv18, ar18, la18, pA18, pB18, hc18, hm⟩ := obc_some hm
    refine g_calli (As := [.int (-14), .int (iv 802)]) (rest := []) C hw (kX8_fail hc18) mtX8_fail lkX8_31 oC8 hl.1 rfl rfl (Nat.le_of_ble_eq_true rfl) ⟨Nat.le_of_ble_eq_true rfl, Nat.le_of_ble_eq_true rfl⟩ dX8_takeEnd_18 ⟨Nat.zero_le _, Nat.zero_le _⟩ (fun H locs hw => ?_)
    refine lv_if_eq (tgt := 28) hx hb dX8_takeEnd_21 (by decide) (fun hc => ?_) (fun hc => ?_)
    · have hm := it_t hc hm
      refine lv_iconst (v := 0) hx hb dX8_takeEnd_28 ci_0 ?_
      cases hm
      exact g_zret C hw (Or.inl rfl) dX8_takeEnd_29
    · have hm := it_f hc hm
      refine lv_iconst (v := 1) hx hb dX8_takeEnd_24 ci_1 ?_
      refine lv_goto (tgt := 29) hx hb dX8_takeEnd_25 (by decide) ?_
      cases hm
      exact g_zret C hw (Or.inr rfl) dX8_takeEnd_29
def mX9_read_L7 : Nat → Int32 → mI → mA → mL → mA → mA → Option (Int32 × mI × mA × mL × mA × mA)
  | 0, _, _, _, _, _, _ => none
  | n + 1, l1, iv, ar, la, pA, pB => if 200 < l1 then some (0, iv, ar, la, pA, pB) else obc (mX9_readLabel iv ar la pA pB) (fun r15 iv15 ar15 la15 pA15 pB15 => if r15 = 0 then some (0, iv15, ar15, la15, pA15, pB15) else obc (mX9_readWord iv15 ar15 la15 pA15 pB15) (fun r22 iv22 ar22 la22 pA22 pB22 => if r22 = 0 then some (0, iv22, ar22, la22, pA22, pB22) else if (iv22 906) = 0 then obc (mX8_takeEnd iv22 ar22 la22 pA22 pB22) (fun r41 iv41 ar41 la41 pA41 pB41 => if r41 = 0 ∨ r41 = 1 then some (r41, iv41, ar41, la41, pA41, pB41) else none) else mX9_read_L7 n (l1 + 1) iv22 ar22 la22 pA22 pB22))
set_option maxRecDepth 100000 in
set_option maxHeartbeats 4000000 in
theorem wX9_read_L7 (C : mCx p s m args meth c RX9 cX9_read 2 (some .boolean) D cI cJ A) (n : Nat) : ∀ (l1 : Int32) (iv : mI) (ar : mA) (la : mL) (pA : mA) (pB : mA) (rz : Int32) (ivz : mI) (arz : mA) (laz : mL) (pAz : mA) (pBz : mA), mX9_read_L7 n l1 iv ar la pA pB = some (rz, ivz, arz, laz, pAz, pBz) → ∀ (H : Heap) (locs : List Loc) (ls : Array Slot), lv_has ls 2 [(0, .ref (oc 9)), (1, .int l1)] → inW D A s (wC cI cJ oc ac pa pb aa ab xp xs tp cp mp iv ar la pA pB) H locs → W p l e (rmO 4 91) s m args below meth c H locs 0 0 (MQ below (ctQ D cI cJ (wC cI cJ oc ac pa pb aa ab xp xs tp cp mp ivz arz laz pAz pBz) A rz) args s 0 0 A) (F0 m 7 ls []) := by
  induction n with
  | zero =>
    intro l1 iv ar la pA pB rz ivz arz laz pAz pBz hm H locs ls hl hw
    have hm : (none : Option (Int32 × mI × mA × mL × mA × mA)) = some _ := hm
    cases hm
  | succ n ih =>
    intro l1 iv ar la pA pB rz ivz arz laz pAz pBz hm H locs ls hl hw
    have hx := C.1.1
    have hb := C.1.2.1
    unfold mX9_read_L7 at hm
    refine lv_iload_n hx hb dX9_read_7 rfl (lv_at hl 1 rfl) ?_
    refine lv_sipush (v := 200) hx hb dX9_read_8 cs_200 ?_
    refine lv_icmp_gt (tgt := 51) hx hb dX9_read_11 (by decide) (fun hc => ?_) (fun hc => ?_)
    · have hm := it_t hc hm
      refine lv_iconst (v := 0) hx hb dX9_read_51 ci_0 ?_
      cases hm
      exact g_zret C hw (Or.inl rfl) dX9_read_52
    · have hm := it_f hc hm
      refine lv_aload_n hx hb dX9_read_14 rfl (lv_at hl 0 rfl) ?_
      obtain ⟨r15, iv15, ar15, la15, pA15, pB15, hc15, hm⟩ := obc_some hm
      refine g_calli (As := []) (rest := []) C hw (kX9_readLabel hc15) mtX9_readLabel lkX9_36 oC9 hl.1 rfl rfl (Nat.le_of_ble_eq_true rfl) ⟨Nat.le_of_ble_eq_true rfl, Nat.le_of_ble_eq_true rfl⟩ dX9_read_15 ⟨Nat.zero_le _, Nat.zero_le _⟩ (fun H locs hw => ?_)
      refine lv_if_eq (tgt := 28) hx hb dX9_read_18 (by decide) (fun hc => ?_) (fun hc => ?_)
      · have hm := it_t hc hm
        refine lv_iconst (v := 0) hx hb dX9_read_28 ci_0 ?_
        cases hm
        exact g_zret C hw (Or.inl rfl) dX9_read_29
      · have hm := it_f hc hm
        refine lv_aload_n hx hb dX9_read_21 rfl (lv_at hl 0 rfl) ?_
        obtain ⟨r22, iv22, ar22, la22, pA22, pB22, hc22, hm⟩ := obc_some hm
        refine g_calli (As := []) (rest := []) C hw (kX9_readWord hc22) mtX9_readWord lkX9_40 oC9 hl.1 rfl rfl (Nat.le_of_ble_eq_true rfl) ⟨Nat.le_of_ble_eq_true rfl, Nat.le_of_ble_eq_true rfl⟩ dX9_read_22 ⟨Nat.zero_le _, Nat.zero_le _⟩ (fun H locs hw => ?_)
        refine lv_if_ne (tgt := 30) hx hb dX9_read_25 (by decide) (fun hc => ?_) (fun hc => ?_)
        · have hm := it_f hc hm
          refine lv_aload_n hx hb dX9_read_30 rfl (lv_at hl 0 rfl) ?_
          refine g_get C hw gC9_6 dX9_read_31 ?_
          refine lv_if_ne (tgt := 45) hx hb dX9_read_34 (by decide) (fun hc => ?_) (fun hc => ?_)
          · have hm := it_f hc hm
            refine lv_iinc (v := (l1 + 1)) (lv' := [(1, .int (l1 + 1)), (0, .ref (oc 9))]) hx hb dX9_read_45 hl (k := 1) rfl (ii_ ci_1) (by decide) rfl (fun ls hl => ?_)
            refine lv_goto (tgt := 7) hx hb dX9_read_48 (by decide) ?_
            exact ih _ _ _ _ _ _ _ _ _ _ _ _ hm _ _ _ (lv_sub hl [1, 0] rfl) hw
          · have hm := it_t hc hm
            refine lv_aload_n hx hb dX9_read_37 rfl (lv_at hl 0 rfl) ?_
            refine g_get C hw gC9_0 dX9_read_38 ?_
            obtain ⟨r41, iv41, ar41, la41, pA41, pB41, hc41, hm⟩ := obc_some hm
            refine g_calli (As := []) (rest := []) C hw (kX8_takeEnd hc41) mtX8_takeEnd lkX9_43 oC8 hl.1 rfl rfl (Nat.le_of_ble_eq_true rfl) ⟨Nat.le_of_ble_eq_true rfl, Nat.le_of_ble_eq_true rfl⟩ dX9_read_41 ⟨Nat.zero_le _, Nat.zero_le _⟩ (fun H locs hw => ?_)
            obtain ⟨hz, hm⟩ := it_z hm
            cases hm
            exact g_zret C hw hz dX9_read_44
        · have hm := it_t hc hm
          refine lv_iconst (v := 0) hx hb dX9_read_28 ci_0 ?_
          cases hm
          exact g_zret C hw (Or.inl rfl) dX9_read_29
def mX9_read  (iv : mI) (ar : mA) (la : mL) (pA : mA) (pB : mA) : Option (Int32 × mI × mA × mL × mA × mA) := mX9_read_L7 bigF 0 (va_up iv 906 0) ar la pA pB
set_option maxRecDepth 100000 in
set_option maxHeartbeats 4000000 in
theorem kX9_read {iv ivz : mI} {ar arz : mA} {la laz : mL} {pA pAz : mA} {pB pBz : mA} {rz : Int32} (hm : mX9_read iv ar la pA pB = some (rz, ivz, arz, laz, pAz, pBz)) : Ct l D cI cJ yX9_read cX9_read 2 (some .boolean) 4 91 [.ref (oc 9)] (wC cI cJ oc ac pa pb aa ab xp xs tp cp mp iv ar la pA pB) (wC cI cJ oc ac pa pb aa ab xp xs tp cp mp ivz arz laz pAz pBz) rz := by
  intro sz
  refine ct_of (by decide) (Nat.le_of_ble_eq_true rfl) ?_
  intro p e s m args below meth c C hw ls hl
  have hl : lv_has ls 2 [(0, .ref (oc 9))] := hl
  have hx := C.1.1
  have hb := C.1.2.1
  unfold mX9_read at hm
  refine lv_aload_n hx hb dX9_read_0 rfl (lv_at hl 0 rfl) ?_
  refine lv_iconst (v := 0) hx hb dX9_read_1 ci_0 ?_
  refine g_put C hw pC9_6 dX9_read_2 (fun H locs hw => ?_)
  refine lv_iconst (v := 0) hx hb dX9_read_5 ci_0 ?_
  refine lv_istore_n (lv' := [(1, .int 0), (0, .ref (oc 9))]) hx hb dX9_read_6 rfl hl (by decide) rfl (fun ls hl => ?_)
  exact wX9_read_L7 C bigF _ _ _ _ _ _ _ _ _ _ _ _ hm _ _ _ (lv_sub hl [1, 0] rfl) hw
def mX8_faultPlace  (iv : mI) (ar : mA) (la : mL) (pA : mA) (pB : mA) : Option (Int32 × mI × mA × mL × mA × mA) := some ((iv 805), iv, ar, la, pA, pB)
set_option maxRecDepth 100000 in
set_option maxHeartbeats 4000000 in
theorem kX8_faultPlace {iv ivz : mI} {ar arz : mA} {la laz : mL} {pA pAz : mA} {pB pBz : mA} {rz : Int32} (hm : mX8_faultPlace iv ar la pA pB = some (rz, ivz, arz, laz, pAz, pBz)) : Ct l D cI cJ yX8_faultPlace cX8_faultPlace 1 (some .int) 0 0 [.ref (oc 8)] (wC cI cJ oc ac pa pb aa ab xp xs tp cp mp iv ar la pA pB) (wC cI cJ oc ac pa pb aa ab xp xs tp cp mp ivz arz laz pAz pBz) rz := by
  intro sz
  refine ct_of (by decide) (Nat.le_of_ble_eq_true rfl) ?_
  intro p e s m args below meth c C hw ls hl
  have hl : lv_has ls 1 [(0, .ref (oc 8))] := hl
  have hx := C.1.1
  have hb := C.1.2.1
  unfold mX8_faultPlace at hm
  refine lv_aload_n hx hb dX8_faultPlace_0 rfl (lv_at hl 0 rfl) ?_
  refine g_get C hw gC8_5 dX8_faultPlace_1 ?_
  cases hm
  exact g_iret C hw dX8_faultPlace_4
def mX8_fault  (iv : mI) (ar : mA) (la : mL) (pA : mA) (pB : mA) : Option (Int32 × mI × mA × mL × mA × mA) := some ((iv 804), iv, ar, la, pA, pB)
set_option maxRecDepth 100000 in
set_option maxHeartbeats 4000000 in
theorem kX8_fault {iv ivz : mI} {ar arz : mA} {la laz : mL} {pA pAz : mA} {pB pBz : mA} {rz : Int32} (hm : mX8_fault iv ar la pA pB = some (rz, ivz, arz, laz, pAz, pBz)) : Ct l D cI cJ yX8_fault cX8_fault 1 (some .int) 0 0 [.ref (oc 8)] (wC cI cJ oc ac pa pb aa ab xp xs tp cp mp iv ar la pA pB) (wC cI cJ oc ac pa pb aa ab xp xs tp cp mp ivz arz laz pAz pBz) rz := by
  intro sz
  refine ct_of (by decide) (Nat.le_of_ble_eq_true rfl) ?_
  intro p e s m args below meth c C hw ls hl
  have hl : lv_has ls 1 [(0, .ref (oc 8))] := hl
  have hx := C.1.1
  have hb := C.1.2.1
  unfold mX8_fault at hm
  refine lv_aload_n hx hb dX8_fault_0 rfl (lv_at hl 0 rfl) ?_
  refine g_get C hw gC8_4 dX8_fault_1 ?_
  cases hm
  exact g_iret C hw dX8_fault_4
def mX8_empty  (iv : mI) (ar : mA) (la : mL) (pA : mA) (pB : mA) : Option (Int32 × mI × mA × mL × mA × mA) := some (0, va_up iv 801 0, ar, la, pA, pB)
set_option maxRecDepth 100000 in
set_option maxHeartbeats 4000000 in
theorem kX8_empty {iv ivz : mI} {ar arz : mA} {la laz : mL} {pA pAz : mA} {pB pBz : mA} {rz : Int32} (hm : mX8_empty iv ar la pA pB = some (rz, ivz, arz, laz, pAz, pBz)) : CtV l D cI cJ yX8_empty cX8_empty 1 0 0 [.ref (oc 8)] (wC cI cJ oc ac pa pb aa ab xp xs tp cp mp iv ar la pA pB) (wC cI cJ oc ac pa pb aa ab xp xs tp cp mp ivz arz laz pAz pBz) := by
  intro sz
  refine ct_of (by decide) (Nat.le_of_ble_eq_true rfl) ?_
  intro p e s m args below meth c C hw ls hl
  have hl : lv_has ls 1 [(0, .ref (oc 8))] := hl
  have hx := C.1.1
  have hb := C.1.2.1
  unfold mX8_empty at hm
  refine lv_aload_n hx hb dX8_empty_0 rfl (lv_at hl 0 rfl) ?_
  refine lv_iconst (v := 0) hx hb dX8_empty_1 ci_0 ?_
  refine g_put C hw pC8_1 dX8_empty_2 (fun H locs hw => ?_)
  cases hm
  exact g_vret C hw dX8_empty_5
def mX11_type_J58 (l1 : Int32) (l2 : Int32) (l3 : Int32) (iv : mI) (ar : mA) (la : mL) (pA : mA) (pB : mA) : Option (Int32 × mI × mA × mL × mA × mA) := obc (mX8_faultPlace iv ar la pA pB) (fun r63 iv63 ar63 la63 pA63 pB63 => obc (mX8_fault (va_up iv63 1111 r63) ar63 la63 pA63 pB63) (fun r73 iv73 ar73 la73 pA73 pB73 => obc (mX8_empty iv73 ar73 la73 pA73 pB73) (fun r82 iv82 ar82 la82 pA82 pB82 => if l2 = 0 then some (r73, iv82, ar82, la82, pA82, pB82) else if l3 = 0 then some ((-3), iv82, ar82, la82, pA82, pB82) else some (l1, iv82, ar82, la82, pA82, pB82))))
set_option maxRecDepth 100000 in
set_option maxHeartbeats 4000000 in
theorem wX11_type_J58 (C : mCx p s m args meth c RX11 cX11_type 5 (some .int) D cI cJ A) : ∀ (l1 : Int32) (l2 : Int32) (l3 : Int32) (iv : mI) (ar : mA) (la : mL) (pA : mA) (pB : mA) (rz : Int32) (ivz : mI) (arz : mA) (laz : mL) (pAz : mA) (pBz : mA), mX11_type_J58 l1 l2 l3 iv ar la pA pB = some (rz, ivz, arz, laz, pAz, pBz) → ∀ (H : Heap) (locs : List Loc) (ls : Array Slot), lv_has ls 5 [(0, .ref (oc 11)), (1, .int l1), (2, .int l2), (3, .int l3)] → inW D A s (wC cI cJ oc ac pa pb aa ab pa pb tp cp mp iv ar la pA pB) H locs → W p l e (rmO 5 112) s m args below meth c H locs 0 0 (MQ below (ctQ D cI cJ (wC cI cJ oc ac pa pb aa ab pa pb tp cp mp ivz arz laz pAz pBz) A rz) args s 0 0 A) (F0 m 58 ls []) := by
  intro l1 l2 l3 iv ar la pA pB rz ivz arz laz pAz pBz hm H locs ls hl hw
  have hx := C.1.1
  have hb := C.1.2.1
  unfold mX11_type_J58 at hm
  refine lv_aload_n hx hb dX11_type_58 rfl (lv_at hl 0 rfl) ?_
  refine lv_aload_n hx hb dX11_type_59 rfl (lv_at hl 0 rfl) ?_
  refine g_get C hw gC11_0 dX11_type_60 ?_
  obtain ⟨r63, iv63, ar63, la63, pA63, pB63, hc63, hm⟩ := obc_some hm
  refine g_calli (As := []) (rest := [.ref (oc 11)]) C hw (kX8_faultPlace hc63) mtX8_faultPlace lkX11_115 oC8 hl.1 rfl rfl (Nat.le_of_ble_eq_true rfl) ⟨Nat.le_of_ble_eq_true rfl, Nat.le_of_ble_eq_true rfl⟩ dX11_type_63 ⟨Nat.zero_le _, Nat.zero_le _⟩ (fun H locs hw => ?_)
  refine g_put C hw pC11_11 dX11_type_66 (fun H locs hw => ?_)
  refine lv_aload_n hx hb dX11_type_69 rfl (lv_at hl 0 rfl) ?_
  refine g_get C hw gC11_0 dX11_type_70 ?_
  obtain ⟨r73, iv73, ar73, la73, pA73, pB73, hc73, hm⟩ := obc_some hm
  refine g_calli (As := []) (rest := []) C hw (kX8_fault hc73) mtX8_fault lkX11_117 oC8 hl.1 rfl rfl (Nat.le_of_ble_eq_true rfl) ⟨Nat.le_of_ble_eq_true rfl, Nat.le_of_ble_eq_true rfl⟩ dX11_type_73 ⟨Nat.zero_le _, Nat.zero_le _⟩ (fun H locs hw => ?_)
  refine lv_istore (lv' := [(4, .int r73), (0, .ref (oc 11)), (1, .int l1), (2, .int l2), (3, .int l3)]) hx hb dX11_type_76 hl (by decide) rfl (fun ls hl => ?_)
  refine lv_aload_n hx hb dX11_type_78 rfl (lv_at hl 1 rfl) ?_
  refine g_get C hw gC11_0 dX11_type_79 ?_
  obtain ⟨r82, iv82, ar82, la82, pA82, pB82, hc82, hm⟩ := obc_some hm
  refine g_callv (As := []) (rest := []) C hw (kX8_empty hc82) mtX8_empty lkX11_120 oC8 hl.1 rfl rfl (Nat.le_of_ble_eq_true rfl) ⟨Nat.le_of_ble_eq_true rfl, Nat.le_of_ble_eq_true rfl⟩ dX11_type_82 ⟨Nat.zero_le _, Nat.zero_le _⟩ (fun H locs hw => ?_)
  refine lv_iload_n hx hb dX11_type_85 rfl (lv_at hl 3 rfl) ?_
  refine lv_if_ne (tgt := 92) hx hb dX11_type_86 (by decide) (fun hc => ?_) (fun hc => ?_)
  · have hm := it_f hc hm
    refine lv_iload_n hx hb dX11_type_92 rfl (lv_at hl 4 rfl) ?_
    refine lv_if_eq (tgt := 100) hx hb dX11_type_93 (by decide) (fun hc => ?_) (fun hc => ?_)
    · have hm := it_t hc hm
      refine lv_bipush (v := (-3)) hx hb dX11_type_100 cb_m3 ?_
      cases hm
      exact g_iret C hw dX11_type_102
    · have hm := it_f hc hm
      refine lv_iload_n hx hb dX11_type_96 rfl (lv_at hl 2 rfl) ?_
      refine lv_goto (tgt := 102) hx hb dX11_type_97 (by decide) ?_
      cases hm
      exact g_iret C hw dX11_type_102
  · have hm := it_t hc hm
    refine lv_iload hx hb dX11_type_89 (lv_at hl 0 rfl) ?_
    cases hm
    exact g_iret C hw dX11_type_91
def mX11_type_J41 (l1 : Int32) (l2 : Int32) (s0 : Int32) (iv : mI) (ar : mA) (la : mL) (pA : mA) (pB : mA) : Option (Int32 × mI × mA × mL × mA × mA) := if l2 = 0 then obc (mX3_cutTo l1 iv ar la pA pB) (fun r55 iv55 ar55 la55 pA55 pB55 => mX11_type_J58 l1 l2 s0 iv55 ar55 la55 pA55 pB55) else if s0 = 0 then obc (mX3_cutTo l1 iv ar la pA pB) (fun r55 iv55 ar55 la55 pA55 pB55 => mX11_type_J58 l1 l2 s0 iv55 ar55 la55 pA55 pB55) else mX11_type_J58 l1 l2 s0 iv ar la pA pB
set_option maxRecDepth 100000 in
set_option maxHeartbeats 4000000 in
theorem wX11_type_J41 (C : mCx p s m args meth c RX11 cX11_type 5 (some .int) D cI cJ A) : ∀ (l1 : Int32) (l2 : Int32) (s0 : Int32) (iv : mI) (ar : mA) (la : mL) (pA : mA) (pB : mA) (rz : Int32) (ivz : mI) (arz : mA) (laz : mL) (pAz : mA) (pBz : mA), mX11_type_J41 l1 l2 s0 iv ar la pA pB = some (rz, ivz, arz, laz, pAz, pBz) → ∀ (H : Heap) (locs : List Loc) (ls : Array Slot), lv_has ls 5 [(0, .ref (oc 11)), (1, .int l1), (2, .int l2)] → inW D A s (wC cI cJ oc ac pa pb aa ab pa pb tp cp mp iv ar la pA pB) H locs → W p l e (rmO 5 112) s m args below meth c H locs 0 0 (MQ below (ctQ D cI cJ (wC cI cJ oc ac pa pb aa ab pa pb tp cp mp ivz arz laz pAz pBz) A rz) args s 0 0 A) (F0 m 41 ls [.int s0]) := by
  intro l1 l2 s0 iv ar la pA pB rz ivz arz laz pAz pBz hm H locs ls hl hw
  have hx := C.1.1
  have hb := C.1.2.1
  unfold mX11_type_J41 at hm
  refine lv_istore_n (lv' := [(3, .int s0), (0, .ref (oc 11)), (1, .int l1), (2, .int l2)]) hx hb dX11_type_41 rfl hl (by decide) rfl (fun ls hl => ?_)
  refine lv_iload_n hx hb dX11_type_42 rfl (lv_at hl 3 rfl) ?_
  refine lv_if_eq (tgt := 50) hx hb dX11_type_43 (by decide) (fun hc => ?_) (fun hc => ?_)
  · have hm := it_t hc hm
    refine lv_aload_n hx hb dX11_type_50 rfl (lv_at hl 1 rfl) ?_
    refine g_get C hw gC11_1 dX11_type_51 ?_
    refine lv_iload_n hx hb dX11_type_54 rfl (lv_at hl 2 rfl) ?_
    obtain ⟨r55, iv55, ar55, la55, pA55, pB55, hc55, hm⟩ := obc_some hm
    refine g_callv (As := [.int l1]) (rest := []) C hw (kX3_cutTo hc55) mtX3_cutTo lkX11_93 oC3 hl.1 rfl rfl (Nat.le_of_ble_eq_true rfl) ⟨Nat.le_of_ble_eq_true rfl, Nat.le_of_ble_eq_true rfl⟩ dX11_type_55 ⟨Nat.zero_le _, Nat.zero_le _⟩ (fun H locs hw => ?_)
    exact wX11_type_J58 C _ _ _ _ _ _ _ _ _ _ _ _ _ _ hm _ _ _ (lv_sub hl [1, 2, 3, 0] rfl) hw
  · have hm := it_f hc hm
    refine lv_iload_n hx hb dX11_type_46 rfl (lv_at hl 0 rfl) ?_
    refine lv_if_ne (tgt := 58) hx hb dX11_type_47 (by decide) (fun hc => ?_) (fun hc => ?_)
    · have hm := it_f hc hm
      exact wX11_type_J58 C _ _ _ _ _ _ _ _ _ _ _ _ _ _ hm _ _ _ (lv_sub hl [1, 2, 3, 0] rfl) hw
    · have hm := it_t hc hm
      refine lv_aload_n hx hb dX11_type_50 rfl (lv_at hl 1 rfl) ?_
      refine g_get C hw gC11_1 dX11_type_51 ?_
      refine lv_iload_n hx hb dX11_type_54 rfl (lv_at hl 2 rfl) ?_
      obtain ⟨r55, iv55, ar55, la55, pA55, pB55, hc55, hm⟩ := obc_some hm
      refine g_callv (As := [.int l1]) (rest := []) C hw (kX3_cutTo hc55) mtX3_cutTo lkX11_93 oC3 hl.1 rfl rfl (Nat.le_of_ble_eq_true rfl) ⟨Nat.le_of_ble_eq_true rfl, Nat.le_of_ble_eq_true rfl⟩ dX11_type_55 ⟨Nat.zero_le _, Nat.zero_le _⟩ (fun H locs hw => ?_)
      exact wX11_type_J58 C _ _ _ _ _ _ _ _ _ _ _ _ _ _ hm _ _ _ (lv_sub hl [1, 2, 3, 0] rfl) hw
def mX11_type  (iv : mI) (ar : mA) (la : mL) (pA : mA) (pB : mA) : Option (Int32 × mI × mA × mL × mA × mA) := obc (mX3_size iv ar la pA pB) (fun r4 iv4 ar4 la4 pA4 pB4 => obc (mX8_rewind iv4 ar4 la4 pA4 pB4) (fun r12 iv12 ar12 la12 pA12 pB12 => obc (mX9_read iv12 ar12 la12 pA12 pB12) (fun r19 iv19 ar19 la19 pA19 pB19 => obc (mX3_size iv19 ar19 la19 pA19 pB19) (fun r27 iv27 ar27 la27 pA27 pB27 => if 200 < r27 then mX11_type_J41 r4 r19 0 iv27 ar27 la27 pA27 pB27 else mX11_type_J41 r4 r19 1 iv27 ar27 la27 pA27 pB27))))
set_option maxRecDepth 100000 in
set_option maxHeartbeats 4000000 in
theorem kX11_type {iv ivz : mI} {ar arz : mA} {la laz : mL} {pA pAz : mA} {pB pBz : mA} {rz : Int32} (hm : mX11_type iv ar la pA pB = some (rz, ivz, arz, laz, pAz, pBz)) : Ct l D cI cJ yX11_type cX11_type 5 (some .int) 5 112 [.ref (oc 11)] (wC cI cJ oc ac pa pb aa ab pa pb tp cp mp iv ar la pA pB) (wC cI cJ oc ac pa pb aa ab pa pb tp cp mp ivz arz laz pAz pBz) rz := by
  intro sz
  refine ct_of (by decide) (Nat.le_of_ble_eq_true rfl) ?_
  intro p e s m args below meth c C hw ls hl
  have hl : lv_has ls 5 [(0, .ref (oc 11))] := hl
  have hx := C.1.1
  have hb := C.1.2.1
  unfold mX11_type at hm
  refine lv_aload_n hx hb dX11_type_0 rfl (lv_at hl 0 rfl) ?_
  refine g_get C hw gC11_1 dX11_type_1 ?_
  obtain ⟨r4, iv4, ar4, la4, pA4, pB4, hc4, hm⟩ := obc_some hm
  refine g_calli (As := []) (rest := []) C hw (kX3_size hc4) mtX3_size lkX11_89 oC3 hl.1 rfl rfl (Nat.le_of_ble_eq_true rfl) ⟨Nat.le_of_ble_eq_true rfl, Nat.le_of_ble_eq_true rfl⟩ dX11_type_4 ⟨Nat.zero_le _, Nat.zero_le _⟩ (fun H locs hw => ?_)
  refine lv_istore_n (lv' := [(1, .int r4), (0, .ref (oc 11))]) hx hb dX11_type_7 rfl hl (by decide) rfl (fun ls hl => ?_)
  refine lv_aload_n hx hb dX11_type_8 rfl (lv_at hl 1 rfl) ?_
  refine g_get C hw gC11_0 dX11_type_9 ?_
  obtain ⟨r12, iv12, ar12, la12, pA12, pB12, hc12, hm⟩ := obc_some hm
  refine g_callv (As := []) (rest := []) C hw (kX8_rewind hc12) mtX8_rewind lkX11_108 oC8 hl.1 rfl rfl (Nat.le_of_ble_eq_true rfl) ⟨Nat.le_of_ble_eq_true rfl, Nat.le_of_ble_eq_true rfl⟩ dX11_type_12 ⟨Nat.zero_le _, Nat.zero_le _⟩ (fun H locs hw => ?_)
  refine lv_aload_n hx hb dX11_type_15 rfl (lv_at hl 1 rfl) ?_
  refine g_get C hw gC11_6 dX11_type_16 ?_
  obtain ⟨r19, iv19, ar19, la19, pA19, pB19, hc19, hm⟩ := obc_some hm
  refine g_calli (As := []) (rest := []) C hw (kX9_read hc19) mtX9_read lkX11_111 oC9 hl.1 rfl rfl (Nat.le_of_ble_eq_true rfl) ⟨Nat.le_of_ble_eq_true rfl, Nat.le_of_ble_eq_true rfl⟩ dX11_type_19 ⟨Nat.zero_le _, Nat.zero_le _⟩ (fun H locs hw => ?_)
  refine lv_istore_n (lv' := [(2, .int r19), (1, .int r4), (0, .ref (oc 11))]) hx hb dX11_type_22 rfl hl (by decide) rfl (fun ls hl => ?_)
  refine lv_aload_n hx hb dX11_type_23 rfl (lv_at hl 2 rfl) ?_
  refine g_get C hw gC11_1 dX11_type_24 ?_
  obtain ⟨r27, iv27, ar27, la27, pA27, pB27, hc27, hm⟩ := obc_some hm
  refine g_calli (As := []) (rest := []) C hw (kX3_size hc27) mtX3_size lkX11_89 oC3 hl.1 rfl rfl (Nat.le_of_ble_eq_true rfl) ⟨Nat.le_of_ble_eq_true rfl, Nat.le_of_ble_eq_true rfl⟩ dX11_type_27 ⟨Nat.zero_le _, Nat.zero_le _⟩ (fun H locs hw => ?_)
  refine lv_sipush (v := 200) hx hb dX11_type_30 cs_200 ?_
  refine lv_icmp_gt (tgt := 40) hx hb dX11_type_33 (by decide) (fun hc => ?_) (fun hc => ?_)
  · have hm := it_t hc hm
    refine lv_iconst (v := 0) hx hb dX11_type_40 ci_0 ?_
    exact wX11_type_J41 C _ _ _ _ _ _ _ _ _ _ _ _ _ _ hm _ _ _ (lv_sub hl [2, 1, 0] rfl) hw
  · have hm := it_f hc hm
    refine lv_iconst (v := 1) hx hb dX11_type_36 ci_1 ?_
    refine lv_goto (tgt := 41) hx hb dX11_type_37 (by decide) ?_
    exact wX11_type_J41 C _ _ _ _ _ _ _ _ _ _ _ _ _ _ hm _ _ _ (lv_sub hl [2, 1, 0] rfl) hw
def mX8_copyTo_L2 : Nat → Int32 → mI → mA → mL → mA → mA → Option (Int32 × mI × mA × mL × mA × mA)
  | 0, _, _, _, _, _, _ => none
  | n + 1, l2, iv, ar, la, pA, pB => if (iv 801) ≤ l2 then some (0, iv, ar, la, pA, pB) else if 200 ≤ l2 then some (0, iv, ar, la, pA, pB) else if l2 < 0 ∨ 200 ≤ l2.toNatClampNeg then none else if l2 < 0 ∨ 200 ≤ l2.toNatClampNeg then none else mX8_copyTo_L2 n (l2 + 1) iv ar la pA (au pB 0 l2.toNatClampNeg (ar 800 l2.toNatClampNeg))
set_option maxRecDepth 100000 in
set_option maxHeartbeats 4000000 in
theorem wX8_copyTo_L2 (C : mCx p s m args meth c RX8 cX8_copyTo 3 none D cI cJ A) (n : Nat) : ∀ (l2 : Int32) (iv : mI) (ar : mA) (la : mL) (pA : mA) (pB : mA) (rz : Int32) (ivz : mI) (arz : mA) (laz : mL) (pAz : mA) (pBz : mA), mX8_copyTo_L2 n l2 iv ar la pA pB = some (rz, ivz, arz, laz, pAz, pBz) → ∀ (H : Heap) (locs : List Loc) (ls : Array Slot), lv_has ls 3 [(0, .ref (oc 8)), (1, .ref (ab 0)), (2, .int l2)] → inW D A s (wC cI cJ oc ac pa pb aa ab xp xs tp cp mp iv ar la pA pB) H locs → W p l e (rmO 0 0) s m args below meth c H locs 0 0 (MQ below (ctQv D cI cJ (wC cI cJ oc ac pa pb aa ab xp xs tp cp mp ivz arz laz pAz pBz) A) args s 0 0 A) (F0 m 2 ls []) := by
  induction n with
  | zero =>
    intro l2 iv ar la pA pB rz ivz arz laz pAz pBz hm H locs ls hl hw
    have hm : (none : Option (Int32 × mI × mA × mL × mA × mA)) = some _ := hm
    cases hm
  | succ n ih =>
    intro l2 iv ar la pA pB rz ivz arz laz pAz pBz hm H locs ls hl hw
    have hx := C.1.1
    have hb := C.1.2.1
    unfold mX8_copyTo_L2 at hm
    refine lv_iload_n hx hb dX8_copyTo_2 rfl (lv_at hl 2 rfl) ?_
    refine lv_aload_n hx hb dX8_copyTo_3 rfl (lv_at hl 0 rfl) ?_
    refine g_get C hw gC8_1 dX8_copyTo_4 ?_
    refine lv_icmp_ge (tgt := 31) hx hb dX8_copyTo_7 (by decide) (fun hc => ?_) (fun hc => ?_)
    · have hm := it_t hc hm
      cases hm
      exact g_vret C hw dX8_copyTo_31
    · have hm := it_f hc hm
      refine lv_iload_n hx hb dX8_copyTo_10 rfl (lv_at hl 2 rfl) ?_
      refine lv_aload_n hx hb dX8_copyTo_11 rfl (lv_at hl 1 rfl) ?_
      refine g_alen C hw nC6B_0 rfl dX8_copyTo_12 ?_
      refine lv_icmp_ge (tgt := 31) hx hb dX8_copyTo_13 (by decide) (fun hc => ?_) (fun hc => ?_)
      · have hm := it_t hc hm
        cases hm
        exact g_vret C hw dX8_copyTo_31
      · have hm := it_f hc hm
        refine lv_aload_n hx hb dX8_copyTo_16 rfl (lv_at hl 1 rfl) ?_
        refine lv_iload_n hx hb dX8_copyTo_17 rfl (lv_at hl 2 rfl) ?_
        refine lv_aload_n hx hb dX8_copyTo_18 rfl (lv_at hl 0 rfl) ?_
        refine g_get C hw gC8_0 dX8_copyTo_19 ?_
        refine lv_iload_n hx hb dX8_copyTo_22 rfl (lv_at hl 2 rfl) ?_
        obtain ⟨hi, hm⟩ := it_a hm
        refine g_ald C hw aC8_0 hi dX8_copyTo_23 ?_
        obtain ⟨hi, hm⟩ := it_a hm
        refine g_ast C hw sC6B_0 hi dX8_copyTo_24 (fun H locs hw => ?_)
        refine lv_iinc (v := (l2 + 1)) (lv' := [(2, .int (l2 + 1)), (0, .ref (oc 8)), (1, .ref (ab 0))]) hx hb dX8_copyTo_25 hl (k := 2) rfl (ii_ ci_1) (by decide) rfl (fun ls hl => ?_)
        refine lv_goto (tgt := 2) hx hb dX8_copyTo_28 (by decide) ?_
        exact ih _ _ _ _ _ _ _ _ _ _ _ _ hm _ _ _ (lv_sub hl [1, 2, 0] rfl) hw
def mX8_copyTo  (iv : mI) (ar : mA) (la : mL) (pA : mA) (pB : mA) : Option (Int32 × mI × mA × mL × mA × mA) := mX8_copyTo_L2 bigF 0 iv ar la pA pB
set_option maxRecDepth 100000 in
set_option maxHeartbeats 4000000 in
theorem kX8_copyTo {iv ivz : mI} {ar arz : mA} {la laz : mL} {pA pAz : mA} {pB pBz : mA} {rz : Int32} (hm : mX8_copyTo iv ar la pA pB = some (rz, ivz, arz, laz, pAz, pBz)) : CtV l D cI cJ yX8_copyTo cX8_copyTo 3 0 0 [.ref (oc 8), .ref (ab 0)] (wC cI cJ oc ac pa pb aa ab xp xs tp cp mp iv ar la pA pB) (wC cI cJ oc ac pa pb aa ab xp xs tp cp mp ivz arz laz pAz pBz) := by
  intro sz
  refine ct_of (by decide) (Nat.le_of_ble_eq_true rfl) ?_
  intro p e s m args below meth c C hw ls hl
  have hl : lv_has ls 3 [(0, .ref (oc 8)), (1, .ref (ab 0))] := hl
  have hx := C.1.1
  have hb := C.1.2.1
  unfold mX8_copyTo at hm
  refine lv_iconst (v := 0) hx hb dX8_copyTo_0 ci_0 ?_
  refine lv_istore_n (lv' := [(2, .int 0), (0, .ref (oc 8)), (1, .ref (ab 0))]) hx hb dX8_copyTo_1 rfl hl (by decide) rfl (fun ls hl => ?_)
  exact wX8_copyTo_L2 C bigF _ _ _ _ _ _ _ _ _ _ _ _ hm _ _ _ (lv_sub hl [1, 2, 0] rfl) hw
def mX6_startB  (iv : mI) (ar : mA) (la : mL) (pA : mA) (pB : mA) : Option (Int32 × mI × mA × mL × mA × mA) := obc (mX8_copyTo iv ar la pA pB) (fun r5 iv5 ar5 la5 pA5 pB5 => some (0, iv5, ar5, la5, pA5, pB5))
set_option maxRecDepth 100000 in
set_option maxHeartbeats 4000000 in
theorem kX6_startB {iv ivz : mI} {ar arz : mA} {la laz : mL} {pA pAz : mA} {pB pBz : mA} {rz : Int32} (hm : mX6_startB iv ar la pA pB = some (rz, ivz, arz, laz, pAz, pBz)) : CtV l D cI cJ yX6_start cX6_start 2 1 22 [.ref pb, .ref (oc 8)] (wC cI cJ oc ac pa pb aa ab xp xs tp cp mp iv ar la pA pB) (wC cI cJ oc ac pa pb aa ab xp xs tp cp mp ivz arz laz pAz pBz) := by
  intro sz
  refine ct_of (by decide) (Nat.le_of_ble_eq_true rfl) ?_
  intro p e s m args below meth c C hw ls hl
  have hl : lv_has ls 2 [(0, .ref pb), (1, .ref (oc 8))] := hl
  have hx := C.1.1
  have hb := C.1.2.1
  unfold mX6_startB at hm
  refine lv_aload_n hx hb dX6_start_0 rfl (lv_at hl 1 rfl) ?_
  refine lv_aload_n hx hb dX6_start_1 rfl (lv_at hl 0 rfl) ?_
  refine g_get C hw gC6B_0 dX6_start_2 ?_
  obtain ⟨r5, iv5, ar5, la5, pA5, pB5, hc5, hm⟩ := obc_some hm
  refine g_callv (As := [.ref (ab 0)]) (rest := []) C hw (kX8_copyTo hc5) mtX8_copyTo lkX6_27 oC8 hl.1 rfl rfl (Nat.le_of_ble_eq_true rfl) ⟨Nat.le_of_ble_eq_true rfl, Nat.le_of_ble_eq_true rfl⟩ dX6_start_5 ⟨Nat.zero_le _, Nat.zero_le _⟩ (fun H locs hw => ?_)
  cases hm
  exact g_vret C hw dX6_start_8
def mX6_wordB (a1 : Int32) (iv : mI) (ar : mA) (la : mL) (pA : mA) (pB : mA) : Option (Int32 × mI × mA × mL × mA × mA) := if a1 < 0 then some ((-1), iv, ar, la, pA, pB) else if 200 ≤ a1 then some ((-1), iv, ar, la, pA, pB) else if a1 < 0 ∨ 200 ≤ a1.toNatClampNeg then none else some ((pB 0 a1.toNatClampNeg), iv, ar, la, pA, pB)
set_option maxRecDepth 100000 in
set_option maxHeartbeats 4000000 in
theorem kX6_wordB {a1 : Int32} {iv ivz : mI} {ar arz : mA} {la laz : mL} {pA pAz : mA} {pB pBz : mA} {rz : Int32} (hm : mX6_wordB a1 iv ar la pA pB = some (rz, ivz, arz, laz, pAz, pBz)) : Ct l D cI cJ yX6_word cX6_word 2 (some .int) 0 0 [.ref pb, .int a1] (wC cI cJ oc ac pa pb aa ab xp xs tp cp mp iv ar la pA pB) (wC cI cJ oc ac pa pb aa ab xp xs tp cp mp ivz arz laz pAz pBz) rz := by
  intro sz
  refine ct_of (by decide) (Nat.le_of_ble_eq_true rfl) ?_
  intro p e s m args below meth c C hw ls hl
  have hl : lv_has ls 2 [(0, .ref pb), (1, .int a1)] := hl
  have hx := C.1.1
  have hb := C.1.2.1
  unfold mX6_wordB at hm
  refine lv_iload_n hx hb dX6_word_0 rfl (lv_at hl 1 rfl) ?_
  refine lv_if_lt (tgt := 20) hx hb dX6_word_1 (by decide) (fun hc => ?_) (fun hc => ?_)
  · have hm := it_t hc hm
    refine lv_iconst (v := (-1)) hx hb dX6_word_20 ci_m1 ?_
    cases hm
    exact g_iret C hw dX6_word_21
  · have hm := it_f hc hm
    refine lv_iload_n hx hb dX6_word_4 rfl (lv_at hl 1 rfl) ?_
    refine lv_sipush (v := 200) hx hb dX6_word_5 cs_200 ?_
    refine lv_icmp_ge (tgt := 20) hx hb dX6_word_8 (by decide) (fun hc => ?_) (fun hc => ?_)
    · have hm := it_t hc hm
      refine lv_iconst (v := (-1)) hx hb dX6_word_20 ci_m1 ?_
      cases hm
      exact g_iret C hw dX6_word_21
    · have hm := it_f hc hm
      refine lv_aload_n hx hb dX6_word_11 rfl (lv_at hl 0 rfl) ?_
      refine g_get C hw gC6B_0 dX6_word_12 ?_
      refine lv_iload_n hx hb dX6_word_15 rfl (lv_at hl 1 rfl) ?_
      obtain ⟨hi, hm⟩ := it_a hm
      refine g_ald C hw aC6B_0 hi dX6_word_16 ?_
      refine lv_goto (tgt := 21) hx hb dX6_word_17 (by decide) ?_
      cases hm
      exact g_iret C hw dX6_word_21
def mX7_wordAround  (iv : mI) (ar : mA) (la : mL) (pA : mA) (pB : mA) : Option (Int32 × mI × mA × mL × mA × mA) := if (iv 707) ≤ 0 then some ((-1), iv, ar, la, pA, pB) else if ((iv 707) - 1) < 0 ∨ 200 ≤ ((iv 707) - 1).toNatClampNeg then none else obc (mX6_wordB (ar 703 ((iv 707) - 1).toNatClampNeg) iv ar la pA pB) (fun r22 iv22 ar22 la22 pA22 pB22 => some (r22, iv22, ar22, la22, pA22, pB22))
set_option maxRecDepth 100000 in
set_option maxHeartbeats 4000000 in
theorem kX7_wordAround {iv ivz : mI} {ar arz : mA} {la laz : mL} {pA pAz : mA} {pB pBz : mA} {rz : Int32} (hm : mX7_wordAround iv ar la pA pB = some (rz, ivz, arz, laz, pAz, pBz)) : Ct l D cI cJ yX7_wordAround cX7_wordAround 1 (some .int) 1 21 [.ref (oc 7)] (wC cI cJ oc ac pa pb aa ab xp xs pb cp mp iv ar la pA pB) (wC cI cJ oc ac pa pb aa ab xp xs pb cp mp ivz arz laz pAz pBz) rz := by
  intro sz
  refine ct_of (by decide) (Nat.le_of_ble_eq_true rfl) ?_
  intro p e s m args below meth c C hw ls hl
  have hl : lv_has ls 1 [(0, .ref (oc 7))] := hl
  have hx := C.1.1
  have hb := C.1.2.1
  unfold mX7_wordAround at hm
  refine lv_aload_n hx hb dX7_wordAround_0 rfl (lv_at hl 0 rfl) ?_
  refine g_get C hw gC7_7 dX7_wordAround_1 ?_
  refine lv_if_le (tgt := 28) hx hb dX7_wordAround_4 (by decide) (fun hc => ?_) (fun hc => ?_)
  · have hm := it_t hc hm
    refine lv_iconst (v := (-1)) hx hb dX7_wordAround_28 ci_m1 ?_
    cases hm
    exact g_iret C hw dX7_wordAround_29
  · have hm := it_f hc hm
    refine lv_aload_n hx hb dX7_wordAround_7 rfl (lv_at hl 0 rfl) ?_
    refine g_get C hw gC7_2 dX7_wordAround_8 ?_
    refine lv_aload_n hx hb dX7_wordAround_11 rfl (lv_at hl 0 rfl) ?_
    refine g_get C hw gC7_3 dX7_wordAround_12 ?_
    refine lv_aload_n hx hb dX7_wordAround_15 rfl (lv_at hl 0 rfl) ?_
    refine g_get C hw gC7_7 dX7_wordAround_16 ?_
    refine lv_iconst (v := 1) hx hb dX7_wordAround_19 ci_1 ?_
    refine lv_isub hx hb dX7_wordAround_20 ?_
    obtain ⟨hi, hm⟩ := it_a hm
    refine g_ald C hw aC7_3 hi dX7_wordAround_21 ?_
    obtain ⟨r22, iv22, ar22, la22, pA22, pB22, hc22, hm⟩ := obc_some hm
    refine g_calli (As := [.int (ar 703 ((iv 707) - 1).toNatClampNeg)]) (rest := []) C hw (kX6_wordB hc22) mtX6_word lkX7_58 oC6B hl.1 rfl rfl (Nat.le_of_ble_eq_true rfl) ⟨Nat.le_of_ble_eq_true rfl, Nat.le_of_ble_eq_true rfl⟩ dX7_wordAround_22 ⟨Nat.zero_le _, Nat.zero_le _⟩ (fun H locs hw => ?_)
    refine lv_goto (tgt := 29) hx hb dX7_wordAround_25 (by decide) ?_
    cases hm
    exact g_iret C hw dX7_wordAround_29
def mX7_isCase  (iv : mI) (ar : mA) (la : mL) (pA : mA) (pB : mA) : Option (Int32 × mI × mA × mL × mA × mA) := if (iv 707) ≤ 0 then some (0, iv, ar, la, pA, pB) else obc (mX7_wordAround iv ar la pA pB) (fun r8 iv8 ar8 la8 pA8 pB8 => if r8 = 32 then if ((iv8 707) - 1) < 0 ∨ 200 ≤ ((iv8 707) - 1).toNatClampNeg then none else if (ar8 704 ((iv8 707) - 1).toNatClampNeg) ≤ 1 then some (0, iv8, ar8, la8, pA8, pB8) else some (1, iv8, ar8, la8, pA8, pB8) else some (0, iv8, ar8, la8, pA8, pB8))
set_option maxRecDepth 100000 in
set_option maxHeartbeats 4000000 in
theorem kX7_isCase {iv ivz : mI} {ar arz : mA} {la laz : mL} {pA pAz : mA} {pB pBz : mA} {rz : Int32} (hm : mX7_isCase iv ar la pA pB = some (rz, ivz, arz, laz, pAz, pBz)) : Ct l D cI cJ yX7_isCase cX7_isCase 1 (some .boolean) 2 41 [.ref (oc 7)] (wC cI cJ oc ac pa pb aa ab xp xs pb cp mp iv ar la pA pB) (wC cI cJ oc ac pa pb aa ab xp xs pb cp mp ivz arz laz pAz pBz) rz := by
  intro sz
  refine ct_of (by decide) (Nat.le_of_ble_eq_true rfl) ?_
  intro p e s m args below meth c C hw ls hl
  have hl : lv_has ls 1 [(0, .ref (oc 7))] := hl
  have hx := C.1.1
  have hb := C.1.2.1
  unfold mX7_isCase at hm
  refine lv_aload_n hx hb dX7_isCase_0 rfl (lv_at hl 0 rfl) ?_
  refine g_get C hw gC7_7 dX7_isCase_1 ?_
  refine lv_if_le (tgt := 35) hx hb dX7_isCase_4 (by decide) (fun hc => ?_) (fun hc => ?_)
  · have hm := it_t hc hm
    refine lv_iconst (v := 0) hx hb dX7_isCase_35 ci_0 ?_
    cases hm
    exact g_zret C hw (Or.inl rfl) dX7_isCase_36
  · have hm := it_f hc hm
    refine lv_aload_n hx hb dX7_isCase_7 rfl (lv_at hl 0 rfl) ?_
    obtain ⟨r8, iv8, ar8, la8, pA8, pB8, hc8, hm⟩ := obc_some hm
    refine g_calli (As := []) (rest := []) C hw (kX7_wordAround hc8) mtX7_wordAround lkX7_62 oC7 hl.1 rfl rfl (Nat.le_of_ble_eq_true rfl) ⟨Nat.le_of_ble_eq_true rfl, Nat.le_of_ble_eq_true rfl⟩ dX7_isCase_8 ⟨Nat.zero_le _, Nat.zero_le _⟩ (fun H locs hw => ?_)
    refine lv_bipush (v := 32) hx hb dX7_isCase_11 cb_32 ?_
    refine lv_icmp_ne (tgt := 35) hx hb dX7_isCase_13 (by decide) (fun hc => ?_) (fun hc => ?_)
    · have hm := it_f hc hm
      refine lv_iconst (v := 0) hx hb dX7_isCase_35 ci_0 ?_
      cases hm
      exact g_zret C hw (Or.inl rfl) dX7_isCase_36
    · have hm := it_t hc hm
      refine lv_aload_n hx hb dX7_isCase_16 rfl (lv_at hl 0 rfl) ?_
      refine g_get C hw gC7_4 dX7_isCase_17 ?_
      refine lv_aload_n hx hb dX7_isCase_20 rfl (lv_at hl 0 rfl) ?_
      refine g_get C hw gC7_7 dX7_isCase_21 ?_
      refine lv_iconst (v := 1) hx hb dX7_isCase_24 ci_1 ?_
      refine lv_isub hx hb dX7_isCase_25 ?_
      obtain ⟨hi, hm⟩ := it_a hm
      refine g_ald C hw aC7_4 hi dX7_isCase_26 ?_
      refine lv_iconst (v := 1) hx hb dX7_isCase_27 ci_1 ?_
      refine lv_icmp_le (tgt := 35) hx hb dX7_isCase_28 (by decide) (fun hc => ?_) (fun hc => ?_)
      · have hm := it_t hc hm
        refine lv_iconst (v := 0) hx hb dX7_isCase_35 ci_0 ?_
        cases hm
        exact g_zret C hw (Or.inl rfl) dX7_isCase_36
      · have hm := it_f hc hm
        refine lv_iconst (v := 1) hx hb dX7_isCase_31 ci_1 ?_
        refine lv_goto (tgt := 36) hx hb dX7_isCase_32 (by decide) ?_
        cases hm
        exact g_zret C hw (Or.inr rfl) dX7_isCase_36
def mX7_readLabel_J29 (l1 : Int32) (iv : mI) (ar : mA) (la : mL) (pA : mA) (pB : mA) : Option (Int32 × mI × mA × mL × mA × mA) := if l1 < 0 ∨ 200 ≤ l1.toNatClampNeg then none else obc (mX8_take ((ar 705 l1.toNatClampNeg) + 1) 7 iv ar la pA pB) (fun r43 iv43 ar43 la43 pA43 pB43 => if r43 = 0 then some (0, iv43, ar43, la43, pA43, pB43) else obc (mX8_taken iv43 ar43 la43 pA43 pB43) (fun r60 iv60 ar60 la60 pA60 pB60 => if l1 < 0 ∨ 200 ≤ l1.toNatClampNeg then none else some (1, iv60, au ar60 705 l1.toNatClampNeg r60, la60, pA60, pB60)))
set_option maxRecDepth 100000 in
set_option maxHeartbeats 4000000 in
theorem wX7_readLabel_J29 (C : mCx p s m args meth c RX7 cX7_readLabel 2 (some .boolean) D cI cJ A) : ∀ (l1 : Int32) (iv : mI) (ar : mA) (la : mL) (pA : mA) (pB : mA) (rz : Int32) (ivz : mI) (arz : mA) (laz : mL) (pAz : mA) (pBz : mA), mX7_readLabel_J29 l1 iv ar la pA pB = some (rz, ivz, arz, laz, pAz, pBz) → ∀ (H : Heap) (locs : List Loc) (ls : Array Slot), lv_has ls 2 [(0, .ref (oc 7)), (1, .int l1)] → inW D A s (wC cI cJ oc ac pa pb aa ab xp xs pb cp mp iv ar la pA pB) H locs → W p l e (rmO 3 61) s m args below meth c H locs 0 0 (MQ below (ctQ D cI cJ (wC cI cJ oc ac pa pb aa ab xp xs pb cp mp ivz arz laz pAz pBz) A rz) args s 0 0 A) (F0 m 29 ls []) := by
  intro l1 iv ar la pA pB rz ivz arz laz pAz pBz hm H locs ls hl hw
  have hx := C.1.1
  have hb := C.1.2.1
  unfold mX7_readLabel_J29 at hm
  refine lv_aload_n hx hb dX7_readLabel_29 rfl (lv_at hl 0 rfl) ?_
  refine g_get C hw gC7_0 dX7_readLabel_30 ?_
  refine lv_aload_n hx hb dX7_readLabel_33 rfl (lv_at hl 0 rfl) ?_
  refine g_get C hw gC7_5 dX7_readLabel_34 ?_
  refine lv_iload_n hx hb dX7_readLabel_37 rfl (lv_at hl 1 rfl) ?_
  obtain ⟨hi, hm⟩ := it_a hm
  refine g_ald C hw aC7_5 hi dX7_readLabel_38 ?_
  refine lv_iconst (v := 1) hx hb dX7_readLabel_39 ci_1 ?_
  refine lv_iadd hx hb dX7_readLabel_40 ?_
  refine lv_bipush (v := 7) hx hb dX7_readLabel_41 cb_7 ?_
  obtain ⟨r43, iv43, ar43, la43, pA43, pB43, hc43, hm⟩ := obc_some hm
  refine g_calli (As := [.int ((ar 705 l1.toNatClampNeg) + 1), .int 7]) (rest := []) C hw (kX8_take hc43) mtX8_take lkX7_69 oC8 hl.1 rfl rfl (Nat.le_of_ble_eq_true rfl) ⟨Nat.le_of_ble_eq_true rfl, Nat.le_of_ble_eq_true rfl⟩ dX7_readLabel_43 ⟨Nat.zero_le _, Nat.zero_le _⟩ (fun H locs hw => ?_)
  refine lv_if_ne (tgt := 51) hx hb dX7_readLabel_46 (by decide) (fun hc => ?_) (fun hc => ?_)
  · have hm := it_f hc hm
    refine lv_aload_n hx hb dX7_readLabel_51 rfl (lv_at hl 0 rfl) ?_
    refine g_get C hw gC7_5 dX7_readLabel_52 ?_
    refine lv_iload_n hx hb dX7_readLabel_55 rfl (lv_at hl 1 rfl) ?_
    refine lv_aload_n hx hb dX7_readLabel_56 rfl (lv_at hl 0 rfl) ?_
    refine g_get C hw gC7_0 dX7_readLabel_57 ?_
    obtain ⟨r60, iv60, ar60, la60, pA60, pB60, hc60, hm⟩ := obc_some hm
    refine g_calli (As := []) (rest := [.int l1, .ref (ac 705)]) C hw (kX8_taken hc60) mtX8_taken lkX7_73 oC8 hl.1 rfl rfl (Nat.le_of_ble_eq_true rfl) ⟨Nat.le_of_ble_eq_true rfl, Nat.le_of_ble_eq_true rfl⟩ dX7_readLabel_60 ⟨Nat.zero_le _, Nat.zero_le _⟩ (fun H locs hw => ?_)
    obtain ⟨hi, hm⟩ := it_a hm
    refine g_ast C hw sC7_5 hi dX7_readLabel_63 (fun H locs hw => ?_)
    refine lv_iconst (v := 1) hx hb dX7_readLabel_64 ci_1 ?_
    cases hm
    exact g_zret C hw (Or.inr rfl) dX7_readLabel_65
  · have hm := it_t hc hm
    refine lv_iconst (v := 0) hx hb dX7_readLabel_49 ci_0 ?_
    cases hm
    exact g_zret C hw (Or.inl rfl) dX7_readLabel_50
def mX7_readLabel  (iv : mI) (ar : mA) (la : mL) (pA : mA) (pB : mA) : Option (Int32 × mI × mA × mL × mA × mA) := if ((iv 707) - 1) < 0 then some (1, iv, ar, la, pA, pB) else obc (mX7_wordAround iv ar la pA pB) (fun r12 iv12 ar12 la12 pA12 pB12 => if r12 = 29 then mX7_readLabel_J29 ((iv 707) - 1) iv12 ar12 la12 pA12 pB12 else obc (mX7_isCase iv12 ar12 la12 pA12 pB12) (fun r21 iv21 ar21 la21 pA21 pB21 => if r21 = 0 then some (1, iv21, ar21, la21, pA21, pB21) else mX7_readLabel_J29 ((iv 707) - 1) iv21 ar21 la21 pA21 pB21))
set_option maxRecDepth 100000 in
set_option maxHeartbeats 4000000 in
theorem kX7_readLabel {iv ivz : mI} {ar arz : mA} {la laz : mL} {pA pAz : mA} {pB pBz : mA} {rz : Int32} (hm : mX7_readLabel iv ar la pA pB = some (rz, ivz, arz, laz, pAz, pBz)) : Ct l D cI cJ yX7_readLabel cX7_readLabel 2 (some .boolean) 3 61 [.ref (oc 7)] (wC cI cJ oc ac pa pb aa ab xp xs pb cp mp iv ar la pA pB) (wC cI cJ oc ac pa pb aa ab xp xs pb cp mp ivz arz laz pAz pBz) rz := by
  intro sz
  refine ct_of (by decide) (Nat.le_of_ble_eq_true rfl) ?_
  intro p e s m args below meth c C hw ls hl
  have hl : lv_has ls 2 [(0, .ref (oc 7))] := hl
  have hx := C.1.1
  have hb := C.1.2.1
  unfold mX7_readLabel at hm
  refine lv_aload_n hx hb dX7_readLabel_0 rfl (lv_at hl 0 rfl) ?_
  refine g_get C hw gC7_7 dX7_readLabel_1 ?_
  refine lv_iconst (v := 1) hx hb dX7_readLabel_4 ci_1 ?_
  refine lv_isub hx hb dX7_readLabel_5 ?_
  refine lv_istore_n (lv' := [(1, .int ((iv 707) - 1)), (0, .ref (oc 7))]) hx hb dX7_readLabel_6 rfl hl (by decide) rfl (fun ls hl => ?_)
  refine lv_iload_n hx hb dX7_readLabel_7 rfl (lv_at hl 0 rfl) ?_
  refine lv_if_lt (tgt := 27) hx hb dX7_readLabel_8 (by decide) (fun hc => ?_) (fun hc => ?_)
  · have hm := it_t hc hm
    refine lv_iconst (v := 1) hx hb dX7_readLabel_27 ci_1 ?_
    cases hm
    exact g_zret C hw (Or.inr rfl) dX7_readLabel_28
  · have hm := it_f hc hm
    refine lv_aload_n hx hb dX7_readLabel_11 rfl (lv_at hl 1 rfl) ?_
    obtain ⟨r12, iv12, ar12, la12, pA12, pB12, hc12, hm⟩ := obc_some hm
    refine g_calli (As := []) (rest := []) C hw (kX7_wordAround hc12) mtX7_wordAround lkX7_62 oC7 hl.1 rfl rfl (Nat.le_of_ble_eq_true rfl) ⟨Nat.le_of_ble_eq_true rfl, Nat.le_of_ble_eq_true rfl⟩ dX7_readLabel_12 ⟨Nat.zero_le _, Nat.zero_le _⟩ (fun H locs hw => ?_)
    refine lv_bipush (v := 29) hx hb dX7_readLabel_15 cb_29 ?_
    refine lv_icmp_eq (tgt := 29) hx hb dX7_readLabel_17 (by decide) (fun hc => ?_) (fun hc => ?_)
    · have hm := it_t hc hm
      exact wX7_readLabel_J29 C _ _ _ _ _ _ _ _ _ _ _ _ hm _ _ _ (lv_sub hl [1, 0] rfl) hw
    · have hm := it_f hc hm
      refine lv_aload_n hx hb dX7_readLabel_20 rfl (lv_at hl 1 rfl) ?_
      obtain ⟨r21, iv21, ar21, la21, pA21, pB21, hc21, hm⟩ := obc_some hm
      refine g_calli (As := []) (rest := []) C hw (kX7_isCase hc21) mtX7_isCase lkX7_66 oC7 hl.1 rfl rfl (Nat.le_of_ble_eq_true rfl) ⟨Nat.le_of_ble_eq_true rfl, Nat.le_of_ble_eq_true rfl⟩ dX7_readLabel_21 ⟨Nat.zero_le _, Nat.zero_le _⟩ (fun H locs hw => ?_)
      refine lv_if_ne (tgt := 29) hx hb dX7_readLabel_24 (by decide) (fun hc => ?_) (fun hc => ?_)
      · have hm := it_f hc hm
        exact wX7_readLabel_J29 C _ _ _ _ _ _ _ _ _ _ _ _ hm _ _ _ (lv_sub hl [1, 0] rfl) hw
      · have hm := it_t hc hm
        refine lv_iconst (v := 1) hx hb dX7_readLabel_27 ci_1 ?_
        cases hm
        exact g_zret C hw (Or.inr rfl) dX7_readLabel_28
def mX6_addB (a1 : Int32) (iv : mI) (ar : mA) (la : mL) (pA : mA) (pB : mA) : Option (Int32 × mI × mA × mL × mA × mA) := if a1 < 0 then some (0, iv, ar, la, pA, pB) else if 200 ≤ a1 then some (0, iv, ar, la, pA, pB) else if a1 < 0 ∨ 200 ≤ a1.toNatClampNeg then none else some (0, iv, ar, la, pA, au pB 2 a1.toNatClampNeg 0)
set_option maxRecDepth 100000 in
set_option maxHeartbeats 4000000 in
theorem kX6_addB {a1 : Int32} {iv ivz : mI} {ar arz : mA} {la laz : mL} {pA pAz : mA} {pB pBz : mA} {rz : Int32} (hm : mX6_addB a1 iv ar la pA pB = some (rz, ivz, arz, laz, pAz, pBz)) : CtV l D cI cJ yX6_add cX6_add 2 0 0 [.ref pb, .int a1] (wC cI cJ oc ac pa pb aa ab xp xs tp cp mp iv ar la pA pB) (wC cI cJ oc ac pa pb aa ab xp xs tp cp mp ivz arz laz pAz pBz) := by
  intro sz
  refine ct_of (by decide) (Nat.le_of_ble_eq_true rfl) ?_
  intro p e s m args below meth c C hw ls hl
  have hl : lv_has ls 2 [(0, .ref pb), (1, .int a1)] := hl
  have hx := C.1.1
  have hb := C.1.2.1
  unfold mX6_addB at hm
  refine lv_iload_n hx hb dX6_add_0 rfl (lv_at hl 1 rfl) ?_
  refine lv_if_lt (tgt := 18) hx hb dX6_add_1 (by decide) (fun hc => ?_) (fun hc => ?_)
  · have hm := it_t hc hm
    cases hm
    exact g_vret C hw dX6_add_18
  · have hm := it_f hc hm
    refine lv_iload_n hx hb dX6_add_4 rfl (lv_at hl 1 rfl) ?_
    refine lv_sipush (v := 200) hx hb dX6_add_5 cs_200 ?_
    refine lv_icmp_ge (tgt := 18) hx hb dX6_add_8 (by decide) (fun hc => ?_) (fun hc => ?_)
    · have hm := it_t hc hm
      cases hm
      exact g_vret C hw dX6_add_18
    · have hm := it_f hc hm
      refine lv_aload_n hx hb dX6_add_11 rfl (lv_at hl 0 rfl) ?_
      refine g_get C hw gC6B_2 dX6_add_12 ?_
      refine lv_iload_n hx hb dX6_add_15 rfl (lv_at hl 1 rfl) ?_
      refine lv_iconst (v := 0) hx hb dX6_add_16 ci_0 ?_
      obtain ⟨hi, hm⟩ := it_a hm
      refine g_ast C hw sC6B_2 hi dX6_add_17 (fun H locs hw => ?_)
      cases hm
      exact g_vret C hw dX6_add_18
def mX6_addKidB (a1 : Int32) (a2 : Int32) (iv : mI) (ar : mA) (la : mL) (pA : mA) (pB : mA) : Option (Int32 × mI × mA × mL × mA × mA) := if a1 < 0 then some (0, iv, ar, la, pA, pB) else if 200 ≤ a1 then some (0, iv, ar, la, pA, pB) else if a1 < 0 ∨ 200 ≤ a1.toNatClampNeg then none else if 9 ≤ (pB 2 a1.toNatClampNeg) then some (0, iv, ar, la, pA, pB) else if a1 < 0 ∨ 200 ≤ a1.toNatClampNeg then none else if ((a1 * 9) + (pB 2 a1.toNatClampNeg)) < 0 ∨ 1800 ≤ ((a1 * 9) + (pB 2 a1.toNatClampNeg)).toNatClampNeg then none else if a1 < 0 ∨ 200 ≤ a1.toNatClampNeg then none else if a1 < 0 ∨ 200 ≤ a1.toNatClampNeg then none else some (0, iv, ar, la, pA, au (au pB 1 ((a1 * 9) + (pB 2 a1.toNatClampNeg)).toNatClampNeg a2) 2 a1.toNatClampNeg (((au pB 1 ((a1 * 9) + (pB 2 a1.toNatClampNeg)).toNatClampNeg a2) 2 a1.toNatClampNeg) + 1))
set_option maxRecDepth 100000 in
set_option maxHeartbeats 4000000 in
theorem kX6_addKidB {a1 a2 : Int32} {iv ivz : mI} {ar arz : mA} {la laz : mL} {pA pAz : mA} {pB pBz : mA} {rz : Int32} (hm : mX6_addKidB a1 a2 iv ar la pA pB = some (rz, ivz, arz, laz, pAz, pBz)) : CtV l D cI cJ yX6_addKid cX6_addKid 3 0 0 [.ref pb, .int a1, .int a2] (wC cI cJ oc ac pa pb aa ab xp xs tp cp mp iv ar la pA pB) (wC cI cJ oc ac pa pb aa ab xp xs tp cp mp ivz arz laz pAz pBz) := by
  intro sz
  refine ct_of (by decide) (Nat.le_of_ble_eq_true rfl) ?_
  intro p e s m args below meth c C hw ls hl
  have hl : lv_has ls 3 [(0, .ref pb), (1, .int a1), (2, .int a2)] := hl
  have hx := C.1.1
  have hb := C.1.2.1
  unfold mX6_addKidB at hm
  refine lv_iload_n hx hb dX6_addKid_0 rfl (lv_at hl 1 rfl) ?_
  refine lv_if_lt (tgt := 49) hx hb dX6_addKid_1 (by decide) (fun hc => ?_) (fun hc => ?_)
  · have hm := it_t hc hm
    cases hm
    exact g_vret C hw dX6_addKid_49
  · have hm := it_f hc hm
    refine lv_iload_n hx hb dX6_addKid_4 rfl (lv_at hl 1 rfl) ?_
    refine lv_sipush (v := 200) hx hb dX6_addKid_5 cs_200 ?_
    refine lv_icmp_ge (tgt := 49) hx hb dX6_addKid_8 (by decide) (fun hc => ?_) (fun hc => ?_)
    · have hm := it_t hc hm
      cases hm
      exact g_vret C hw dX6_addKid_49
    · have hm := it_f hc hm
      refine lv_aload_n hx hb dX6_addKid_11 rfl (lv_at hl 0 rfl) ?_
      refine g_get C hw gC6B_2 dX6_addKid_12 ?_
      refine lv_iload_n hx hb dX6_addKid_15 rfl (lv_at hl 1 rfl) ?_
      obtain ⟨hi, hm⟩ := it_a hm
      refine g_ald C hw aC6B_2 hi dX6_addKid_16 ?_
      refine lv_bipush (v := 9) hx hb dX6_addKid_17 cb_9 ?_
      refine lv_icmp_ge (tgt := 49) hx hb dX6_addKid_19 (by decide) (fun hc => ?_) (fun hc => ?_)
      · have hm := it_t hc hm
        cases hm
        exact g_vret C hw dX6_addKid_49
      · have hm := it_f hc hm
        refine lv_aload_n hx hb dX6_addKid_22 rfl (lv_at hl 0 rfl) ?_
        refine g_get C hw gC6B_1 dX6_addKid_23 ?_
        refine lv_iload_n hx hb dX6_addKid_26 rfl (lv_at hl 1 rfl) ?_
        refine lv_bipush (v := 9) hx hb dX6_addKid_27 cb_9 ?_
        refine lv_imul hx hb dX6_addKid_29 ?_
        refine lv_aload_n hx hb dX6_addKid_30 rfl (lv_at hl 0 rfl) ?_
        refine g_get C hw gC6B_2 dX6_addKid_31 ?_
        refine lv_iload_n hx hb dX6_addKid_34 rfl (lv_at hl 1 rfl) ?_
        obtain ⟨hi, hm⟩ := it_a hm
        refine g_ald C hw aC6B_2 hi dX6_addKid_35 ?_
        refine lv_iadd hx hb dX6_addKid_36 ?_
        refine lv_iload_n hx hb dX6_addKid_37 rfl (lv_at hl 2 rfl) ?_
        obtain ⟨hi, hm⟩ := it_a hm
        refine g_ast C hw sC6B_1 hi dX6_addKid_38 (fun H locs hw => ?_)
        refine lv_aload_n hx hb dX6_addKid_39 rfl (lv_at hl 0 rfl) ?_
        refine g_get C hw gC6B_2 dX6_addKid_40 ?_
        refine lv_iload_n hx hb dX6_addKid_43 rfl (lv_at hl 1 rfl) ?_
        refine lv_dup2_11 hx hb dX6_addKid_44 rfl rfl ?_
        obtain ⟨hi, hm⟩ := it_a hm
        refine g_ald C hw aC6B_2 hi dX6_addKid_45 ?_
        refine lv_iconst (v := 1) hx hb dX6_addKid_46 ci_1 ?_
        refine lv_iadd hx hb dX6_addKid_47 ?_
        obtain ⟨hi, hm⟩ := it_a hm
        refine g_ast C hw sC6B_2 hi dX6_addKid_48 (fun H locs hw => ?_)
        cases hm
        exact g_vret C hw dX6_addKid_49
def mX6_setOuterB (a1 : Int32) (a2 : Int32) (iv : mI) (ar : mA) (la : mL) (pA : mA) (pB : mA) : Option (Int32 × mI × mA × mL × mA × mA) := if a1 < 0 then some (0, iv, ar, la, pA, pB) else if 200 ≤ a1 then some (0, iv, ar, la, pA, pB) else if a1 < 0 ∨ 200 ≤ a1.toNatClampNeg then none else some (0, iv, ar, la, pA, au pB 3 a1.toNatClampNeg a2)
set_option maxRecDepth 100000 in
set_option maxHeartbeats 4000000 in
theorem kX6_setOuterB {a1 a2 : Int32} {iv ivz : mI} {ar arz : mA} {la laz : mL} {pA pAz : mA} {pB pBz : mA} {rz : Int32} (hm : mX6_setOuterB a1 a2 iv ar la pA pB = some (rz, ivz, arz, laz, pAz, pBz)) : CtV l D cI cJ yX6_setOuter cX6_setOuter 3 0 0 [.ref pb, .int a1, .int a2] (wC cI cJ oc ac pa pb aa ab xp xs tp cp mp iv ar la pA pB) (wC cI cJ oc ac pa pb aa ab xp xs tp cp mp ivz arz laz pAz pBz) := by
  intro sz
  refine ct_of (by decide) (Nat.le_of_ble_eq_true rfl) ?_
  intro p e s m args below meth c C hw ls hl
  have hl : lv_has ls 3 [(0, .ref pb), (1, .int a1), (2, .int a2)] := hl
  have hx := C.1.1
  have hb := C.1.2.1
  unfold mX6_setOuterB at hm
  refine lv_iload_n hx hb dX6_setOuter_0 rfl (lv_at hl 1 rfl) ?_
  refine lv_if_lt (tgt := 18) hx hb dX6_setOuter_1 (by decide) (fun hc => ?_) (fun hc => ?_)
  · have hm := it_t hc hm
    cases hm
    exact g_vret C hw dX6_setOuter_18
  · have hm := it_f hc hm
    refine lv_iload_n hx hb dX6_setOuter_4 rfl (lv_at hl 1 rfl) ?_
    refine lv_sipush (v := 200) hx hb dX6_setOuter_5 cs_200 ?_
    refine lv_icmp_ge (tgt := 18) hx hb dX6_setOuter_8 (by decide) (fun hc => ?_) (fun hc => ?_)
    · have hm := it_t hc hm
      cases hm
      exact g_vret C hw dX6_setOuter_18
    · have hm := it_f hc hm
      refine lv_aload_n hx hb dX6_setOuter_11 rfl (lv_at hl 0 rfl) ?_
      refine g_get C hw gC6B_3 dX6_setOuter_12 ?_
      refine lv_iload_n hx hb dX6_setOuter_15 rfl (lv_at hl 1 rfl) ?_
      refine lv_iload_n hx hb dX6_setOuter_16 rfl (lv_at hl 2 rfl) ?_
      obtain ⟨hi, hm⟩ := it_a hm
      refine g_ast C hw sC6B_3 hi dX6_setOuter_17 (fun H locs hw => ?_)
      cases hm
      exact g_vret C hw dX6_setOuter_18
def mX7_enter (a1 : Int32) (iv : mI) (ar : mA) (la : mL) (pA : mA) (pB : mA) : Option (Int32 × mI × mA × mL × mA × mA) := obc (mX6_addB a1 iv ar la pA pB) (fun r5 iv5 ar5 la5 pA5 pB5 => if 0 ≤ ((iv5 707) - 1) then if ((iv5 707) - 1) < 0 ∨ 200 ≤ ((iv5 707) - 1).toNatClampNeg then none else if ((iv5 707) - 1) < 0 ∨ 200 ≤ ((iv5 707) - 1).toNatClampNeg then none else obc (mX6_addKidB (ar5 703 ((iv5 707) - 1).toNatClampNeg) a1 iv5 ar5 la5 pA5 pB5) (fun r39 iv39 ar39 la39 pA39 pB39 => obc (mX7_wordAround iv39 ar39 la39 pA39 pB39) (fun r43 iv43 ar43 la43 pA43 pB43 => if r43 = 21 then obc (mX6_setOuterB a1 (ar5 706 ((iv5 707) - 1).toNatClampNeg) iv43 ar43 la43 pA43 pB43) (fun r75 iv75 ar75 la75 pA75 pB75 => some (a1, iv75, ar75, la75, pA75, pB75)) else if r43 = 33 then obc (mX6_setOuterB a1 (ar5 706 ((iv5 707) - 1).toNatClampNeg) iv43 ar43 la43 pA43 pB43) (fun r75 iv75 ar75 la75 pA75 pB75 => some (a1, iv75, ar75, la75, pA75, pB75)) else obc (mX7_isCase iv43 ar43 la43 pA43 pB43) (fun r63 iv63 ar63 la63 pA63 pB63 => if r63 = 0 then some ((ar5 706 ((iv5 707) - 1).toNatClampNeg), iv63, ar63, la63, pA63, pB63) else obc (mX6_setOuterB a1 (ar5 706 ((iv5 707) - 1).toNatClampNeg) iv63 ar63 la63 pA63 pB63) (fun r75 iv75 ar75 la75 pA75 pB75 => some (a1, iv75, ar75, la75, pA75, pB75))))) else some ((-1), iv5, ar5, la5, pA5, pB5))
set_option maxRecDepth 100000 in
set_option maxHeartbeats 4000000 in
theorem kX7_enter {a1 : Int32} {iv ivz : mI} {ar arz : mA} {la laz : mL} {pA pAz : mA} {pB pBz : mA} {rz : Int32} (hm : mX7_enter a1 iv ar la pA pB = some (rz, ivz, arz, laz, pAz, pBz)) : Ct l D cI cJ yX7_enter cX7_enter 5 (some .int) 3 61 [.ref (oc 7), .int a1] (wC cI cJ oc ac pa pb aa ab xp xs pb cp mp iv ar la pA pB) (wC cI cJ oc ac pa pb aa ab xp xs pb cp mp ivz arz laz pAz pBz) rz := by
  intro sz
  refine ct_of (by decide) (Nat.le_of_ble_eq_true rfl) ?_
  intro p e s m args below meth c C hw ls hl
  have hl : lv_has ls 5 [(0, .ref (oc 7)), (1, .int a1)] := hl
  have hx := C.1.1
  have hb := C.1.2.1
  unfold mX7_enter at hm
  refine lv_aload_n hx hb dX7_enter_0 rfl (lv_at hl 0 rfl) ?_
  refine g_get C hw gC7_2 dX7_enter_1 ?_
  refine lv_iload_n hx hb dX7_enter_4 rfl (lv_at hl 1 rfl) ?_
  obtain ⟨r5, iv5, ar5, la5, pA5, pB5, hc5, hm⟩ := obc_some hm
  refine g_callv (As := [.int a1]) (rest := []) C hw (kX6_addB hc5) mtX6_add lkX7_93 oC6B hl.1 rfl rfl (Nat.le_of_ble_eq_true rfl) ⟨Nat.le_of_ble_eq_true rfl, Nat.le_of_ble_eq_true rfl⟩ dX7_enter_5 ⟨Nat.zero_le _, Nat.zero_le _⟩ (fun H locs hw => ?_)
  refine lv_aload_n hx hb dX7_enter_8 rfl (lv_at hl 0 rfl) ?_
  refine g_get C hw gC7_7 dX7_enter_9 ?_
  refine lv_iconst (v := 1) hx hb dX7_enter_12 ci_1 ?_
  refine lv_isub hx hb dX7_enter_13 ?_
  refine lv_istore_n (lv' := [(2, .int ((iv5 707) - 1)), (0, .ref (oc 7)), (1, .int a1)]) hx hb dX7_enter_14 rfl hl (by decide) rfl (fun ls hl => ?_)
  refine lv_iload_n hx hb dX7_enter_15 rfl (lv_at hl 0 rfl) ?_
  refine lv_if_ge (tgt := 21) hx hb dX7_enter_16 (by decide) (fun hc => ?_) (fun hc => ?_)
  · have hm := it_t hc hm
    refine lv_aload_n hx hb dX7_enter_21 rfl (lv_at hl 1 rfl) ?_
    refine g_get C hw gC7_6 dX7_enter_22 ?_
    refine lv_iload_n hx hb dX7_enter_25 rfl (lv_at hl 0 rfl) ?_
    obtain ⟨hi, hm⟩ := it_a hm
    refine g_ald C hw aC7_6 hi dX7_enter_26 ?_
    refine lv_istore_n (lv' := [(3, .int (ar5 706 ((iv5 707) - 1).toNatClampNeg)), (2, .int ((iv5 707) - 1)), (0, .ref (oc 7)), (1, .int a1)]) hx hb dX7_enter_27 rfl hl (by decide) rfl (fun ls hl => ?_)
    refine lv_aload_n hx hb dX7_enter_28 rfl (lv_at hl 2 rfl) ?_
    refine g_get C hw gC7_2 dX7_enter_29 ?_
    refine lv_aload_n hx hb dX7_enter_32 rfl (lv_at hl 2 rfl) ?_
    refine g_get C hw gC7_3 dX7_enter_33 ?_
    refine lv_iload_n hx hb dX7_enter_36 rfl (lv_at hl 1 rfl) ?_
    obtain ⟨hi, hm⟩ := it_a hm
    refine g_ald C hw aC7_3 hi dX7_enter_37 ?_
    refine lv_iload_n hx hb dX7_enter_38 rfl (lv_at hl 3 rfl) ?_
    obtain ⟨r39, iv39, ar39, la39, pA39, pB39, hc39, hm⟩ := obc_some hm
    refine g_callv (As := [.int (ar5 703 ((iv5 707) - 1).toNatClampNeg), .int a1]) (rest := []) C hw (kX6_addKidB hc39) mtX6_addKid lkX7_97 oC6B hl.1 rfl rfl (Nat.le_of_ble_eq_true rfl) ⟨Nat.le_of_ble_eq_true rfl, Nat.le_of_ble_eq_true rfl⟩ dX7_enter_39 ⟨Nat.zero_le _, Nat.zero_le _⟩ (fun H locs hw => ?_)
    refine lv_aload_n hx hb dX7_enter_42 rfl (lv_at hl 2 rfl) ?_
    obtain ⟨r43, iv43, ar43, la43, pA43, pB43, hc43, hm⟩ := obc_some hm
    refine g_calli (As := []) (rest := []) C hw (kX7_wordAround hc43) mtX7_wordAround lkX7_62 oC7 hl.1 rfl rfl (Nat.le_of_ble_eq_true rfl) ⟨Nat.le_of_ble_eq_true rfl, Nat.le_of_ble_eq_true rfl⟩ dX7_enter_43 ⟨Nat.zero_le _, Nat.zero_le _⟩ (fun H locs hw => ?_)
    refine lv_istore (lv' := [(4, .int r43), (3, .int (ar5 706 ((iv5 707) - 1).toNatClampNeg)), (2, .int ((iv5 707) - 1)), (0, .ref (oc 7)), (1, .int a1)]) hx hb dX7_enter_46 hl (by decide) rfl (fun ls hl => ?_)
    refine lv_iload hx hb dX7_enter_48 (lv_at hl 0 rfl) ?_
    refine lv_bipush (v := 21) hx hb dX7_enter_50 cb_21 ?_
    refine lv_icmp_eq (tgt := 69) hx hb dX7_enter_52 (by decide) (fun hc => ?_) (fun hc => ?_)
    · have hm := it_t hc hm
      refine lv_aload_n hx hb dX7_enter_69 rfl (lv_at hl 3 rfl) ?_
      refine g_get C hw gC7_2 dX7_enter_70 ?_
      refine lv_iload_n hx hb dX7_enter_73 rfl (lv_at hl 4 rfl) ?_
      refine lv_iload_n hx hb dX7_enter_74 rfl (lv_at hl 1 rfl) ?_
      obtain ⟨r75, iv75, ar75, la75, pA75, pB75, hc75, hm⟩ := obc_some hm
      refine g_callv (As := [.int a1, .int (ar5 706 ((iv5 707) - 1).toNatClampNeg)]) (rest := []) C hw (kX6_setOuterB hc75) mtX6_setOuter lkX7_101 oC6B hl.1 rfl rfl (Nat.le_of_ble_eq_true rfl) ⟨Nat.le_of_ble_eq_true rfl, Nat.le_of_ble_eq_true rfl⟩ dX7_enter_75 ⟨Nat.zero_le _, Nat.zero_le _⟩ (fun H locs hw => ?_)
      refine lv_iload_n hx hb dX7_enter_78 rfl (lv_at hl 4 rfl) ?_
      cases hm
      exact g_iret C hw dX7_enter_79
    · have hm := it_f hc hm
      refine lv_iload hx hb dX7_enter_55 (lv_at hl 0 rfl) ?_
      refine lv_bipush (v := 33) hx hb dX7_enter_57 cb_33 ?_
      refine lv_icmp_eq (tgt := 69) hx hb dX7_enter_59 (by decide) (fun hc => ?_) (fun hc => ?_)
      · have hm := it_t hc hm
        refine lv_aload_n hx hb dX7_enter_69 rfl (lv_at hl 3 rfl) ?_
        refine g_get C hw gC7_2 dX7_enter_70 ?_
        refine lv_iload_n hx hb dX7_enter_73 rfl (lv_at hl 4 rfl) ?_
        refine lv_iload_n hx hb dX7_enter_74 rfl (lv_at hl 1 rfl) ?_
        obtain ⟨r75, iv75, ar75, la75, pA75, pB75, hc75, hm⟩ := obc_some hm
        refine g_callv (As := [.int a1, .int (ar5 706 ((iv5 707) - 1).toNatClampNeg)]) (rest := []) C hw (kX6_setOuterB hc75) mtX6_setOuter lkX7_101 oC6B hl.1 rfl rfl (Nat.le_of_ble_eq_true rfl) ⟨Nat.le_of_ble_eq_true rfl, Nat.le_of_ble_eq_true rfl⟩ dX7_enter_75 ⟨Nat.zero_le _, Nat.zero_le _⟩ (fun H locs hw => ?_)
        refine lv_iload_n hx hb dX7_enter_78 rfl (lv_at hl 4 rfl) ?_
        cases hm
        exact g_iret C hw dX7_enter_79
      · have hm := it_f hc hm
        refine lv_aload_n hx hb dX7_enter_62 rfl (lv_at hl 3 rfl) ?_
        obtain ⟨r63, iv63, ar63, la63, pA63, pB63, hc63, hm⟩ := obc_some hm
        refine g_calli (As := []) (rest := []) C hw (kX7_isCase hc63) mtX7_isCase lkX7_66 oC7 hl.1 rfl rfl (Nat.le_of_ble_eq_true rfl) ⟨Nat.le_of_ble_eq_true rfl, Nat.le_of_ble_eq_true rfl⟩ dX7_enter_63 ⟨Nat.zero_le _, Nat.zero_le _⟩ (fun H locs hw => ?_)
        refine lv_if_eq (tgt := 80) hx hb dX7_enter_66 (by decide) (fun hc => ?_) (fun hc => ?_)
        · have hm := it_t hc hm
          refine lv_iload_n hx hb dX7_enter_80 rfl (lv_at hl 1 rfl) ?_
          cases hm
          exact g_iret C hw dX7_enter_81
        · have hm := it_f hc hm
          refine lv_aload_n hx hb dX7_enter_69 rfl (lv_at hl 3 rfl) ?_
          refine g_get C hw gC7_2 dX7_enter_70 ?_
          refine lv_iload_n hx hb dX7_enter_73 rfl (lv_at hl 4 rfl) ?_
          refine lv_iload_n hx hb dX7_enter_74 rfl (lv_at hl 1 rfl) ?_
          obtain ⟨r75, iv75, ar75, la75, pA75, pB75, hc75, hm⟩ := obc_some hm
          refine g_callv (As := [.int a1, .int (ar5 706 ((iv5 707) - 1).toNatClampNeg)]) (rest := []) C hw (kX6_setOuterB hc75) mtX6_setOuter lkX7_101 oC6B hl.1 rfl rfl (Nat.le_of_ble_eq_true rfl) ⟨Nat.le_of_ble_eq_true rfl, Nat.le_of_ble_eq_true rfl⟩ dX7_enter_75 ⟨Nat.zero_le _, Nat.zero_le _⟩ (fun H locs hw => ?_)
          refine lv_iload_n hx hb dX7_enter_78 rfl (lv_at hl 4 rfl) ?_
          cases hm
          exact g_iret C hw dX7_enter_79
  · have hm := it_f hc hm
    refine lv_iconst (v := (-1)) hx hb dX7_enter_19 ci_m1 ?_
    cases hm
    exact g_iret C hw dX7_enter_20
def mX6_outerB (a1 : Int32) (iv : mI) (ar : mA) (la : mL) (pA : mA) (pB : mA) : Option (Int32 × mI × mA × mL × mA × mA) := if a1 < 0 then some ((-1), iv, ar, la, pA, pB) else if 200 ≤ a1 then some ((-1), iv, ar, la, pA, pB) else if a1 < 0 ∨ 200 ≤ a1.toNatClampNeg then none else some ((pB 3 a1.toNatClampNeg), iv, ar, la, pA, pB)
set_option maxRecDepth 100000 in
set_option maxHeartbeats 4000000 in
theorem kX6_outerB {a1 : Int32} {iv ivz : mI} {ar arz : mA} {la laz : mL} {pA pAz : mA} {pB pBz : mA} {rz : Int32} (hm : mX6_outerB a1 iv ar la pA pB = some (rz, ivz, arz, laz, pAz, pBz)) : Ct l D cI cJ yX6_outer cX6_outer 2 (some .int) 0 0 [.ref pb, .int a1] (wC cI cJ oc ac pa pb aa ab xp xs tp cp mp iv ar la pA pB) (wC cI cJ oc ac pa pb aa ab xp xs tp cp mp ivz arz laz pAz pBz) rz := by
  intro sz
  refine ct_of (by decide) (Nat.le_of_ble_eq_true rfl) ?_
  intro p e s m args below meth c C hw ls hl
  have hl : lv_has ls 2 [(0, .ref pb), (1, .int a1)] := hl
  have hx := C.1.1
  have hb := C.1.2.1
  unfold mX6_outerB at hm
  refine lv_iload_n hx hb dX6_outer_0 rfl (lv_at hl 1 rfl) ?_
  refine lv_if_lt (tgt := 20) hx hb dX6_outer_1 (by decide) (fun hc => ?_) (fun hc => ?_)
  · have hm := it_t hc hm
    refine lv_iconst (v := (-1)) hx hb dX6_outer_20 ci_m1 ?_
    cases hm
    exact g_iret C hw dX6_outer_21
  · have hm := it_f hc hm
    refine lv_iload_n hx hb dX6_outer_4 rfl (lv_at hl 1 rfl) ?_
    refine lv_sipush (v := 200) hx hb dX6_outer_5 cs_200 ?_
    refine lv_icmp_ge (tgt := 20) hx hb dX6_outer_8 (by decide) (fun hc => ?_) (fun hc => ?_)
    · have hm := it_t hc hm
      refine lv_iconst (v := (-1)) hx hb dX6_outer_20 ci_m1 ?_
      cases hm
      exact g_iret C hw dX6_outer_21
    · have hm := it_f hc hm
      refine lv_aload_n hx hb dX6_outer_11 rfl (lv_at hl 0 rfl) ?_
      refine g_get C hw gC6B_3 dX6_outer_12 ?_
      refine lv_iload_n hx hb dX6_outer_15 rfl (lv_at hl 1 rfl) ?_
      obtain ⟨hi, hm⟩ := it_a hm
      refine g_ald C hw aC6B_3 hi dX6_outer_16 ?_
      refine lv_goto (tgt := 21) hx hb dX6_outer_17 (by decide) ?_
      cases hm
      exact g_iret C hw dX6_outer_21
def mX6_setHomeB (a1 : Int32) (a2 : Int32) (iv : mI) (ar : mA) (la : mL) (pA : mA) (pB : mA) : Option (Int32 × mI × mA × mL × mA × mA) := if a1 < 0 then some (0, iv, ar, la, pA, pB) else if 200 ≤ a1 then some (0, iv, ar, la, pA, pB) else if a1 < 0 ∨ 200 ≤ a1.toNatClampNeg then none else some (0, iv, ar, la, pA, au pB 4 a1.toNatClampNeg a2)
set_option maxRecDepth 100000 in
set_option maxHeartbeats 4000000 in
theorem kX6_setHomeB {a1 a2 : Int32} {iv ivz : mI} {ar arz : mA} {la laz : mL} {pA pAz : mA} {pB pBz : mA} {rz : Int32} (hm : mX6_setHomeB a1 a2 iv ar la pA pB = some (rz, ivz, arz, laz, pAz, pBz)) : CtV l D cI cJ yX6_setHome cX6_setHome 3 0 0 [.ref pb, .int a1, .int a2] (wC cI cJ oc ac pa pb aa ab xp xs tp cp mp iv ar la pA pB) (wC cI cJ oc ac pa pb aa ab xp xs tp cp mp ivz arz laz pAz pBz) := by
  intro sz
  refine ct_of (by decide) (Nat.le_of_ble_eq_true rfl) ?_
  intro p e s m args below meth c C hw ls hl
  have hl : lv_has ls 3 [(0, .ref pb), (1, .int a1), (2, .int a2)] := hl
  have hx := C.1.1
  have hb := C.1.2.1
  unfold mX6_setHomeB at hm
  refine lv_iload_n hx hb dX6_setHome_0 rfl (lv_at hl 1 rfl) ?_
  refine lv_if_lt (tgt := 18) hx hb dX6_setHome_1 (by decide) (fun hc => ?_) (fun hc => ?_)
  · have hm := it_t hc hm
    cases hm
    exact g_vret C hw dX6_setHome_18
  · have hm := it_f hc hm
    refine lv_iload_n hx hb dX6_setHome_4 rfl (lv_at hl 1 rfl) ?_
    refine lv_sipush (v := 200) hx hb dX6_setHome_5 cs_200 ?_
    refine lv_icmp_ge (tgt := 18) hx hb dX6_setHome_8 (by decide) (fun hc => ?_) (fun hc => ?_)
    · have hm := it_t hc hm
      cases hm
      exact g_vret C hw dX6_setHome_18
    · have hm := it_f hc hm
      refine lv_aload_n hx hb dX6_setHome_11 rfl (lv_at hl 0 rfl) ?_
      refine g_get C hw gC6B_4 dX6_setHome_12 ?_
      refine lv_iload_n hx hb dX6_setHome_15 rfl (lv_at hl 1 rfl) ?_
      refine lv_iload_n hx hb dX6_setHome_16 rfl (lv_at hl 2 rfl) ?_
      obtain ⟨hi, hm⟩ := it_a hm
      refine g_ast C hw sC6B_4 hi dX6_setHome_17 (fun H locs hw => ?_)
      cases hm
      exact g_vret C hw dX6_setHome_18
def mX7_readVariable_J51 (l1 : Int32) (l3 : Int32) (iv : mI) (ar : mA) (la : mL) (pA : mA) (pB : mA) : Option (Int32 × mI × mA × mL × mA × mA) := if l3 = (-1) then obc (mX8_fail (-11) (l1 + 1) iv ar la pA pB) (fun r65 iv65 ar65 la65 pA65 pB65 => if r65 = 0 ∨ r65 = 1 then some (r65, iv65, ar65, la65, pA65, pB65) else none) else obc (mX6_setHomeB l1 l3 iv ar la pA pB) (fun r75 iv75 ar75 la75 pA75 pB75 => some (1, iv75, ar75, la75, pA75, pB75))
set_option maxRecDepth 100000 in
set_option maxHeartbeats 4000000 in
theorem wX7_readVariable_J51 (C : mCx p s m args meth c RX7 cX7_readVariable 5 (some .boolean) D cI cJ A) : ∀ (l1 : Int32) (l3 : Int32) (iv : mI) (ar : mA) (la : mL) (pA : mA) (pB : mA) (rz : Int32) (ivz : mI) (arz : mA) (laz : mL) (pAz : mA) (pBz : mA), mX7_readVariable_J51 l1 l3 iv ar la pA pB = some (rz, ivz, arz, laz, pAz, pBz) → ∀ (H : Heap) (locs : List Loc) (ls : Array Slot), lv_has ls 5 [(0, .ref (oc 7)), (1, .int l1), (3, .int l3)] → inW D A s (wC cI cJ oc ac pa pb aa ab xp xs pb cp mp iv ar la pA pB) H locs → W p l e (rmO 2 45) s m args below meth c H locs 0 0 (MQ below (ctQ D cI cJ (wC cI cJ oc ac pa pb aa ab xp xs pb cp mp ivz arz laz pAz pBz) A rz) args s 0 0 A) (F0 m 51 ls []) := by
  intro l1 l3 iv ar la pA pB rz ivz arz laz pAz pBz hm H locs ls hl hw
  have hx := C.1.1
  have hb := C.1.2.1
  unfold mX7_readVariable_J51 at hm
  refine lv_iload_n hx hb dX7_readVariable_51 rfl (lv_at hl 2 rfl) ?_
  refine lv_iconst (v := (-1)) hx hb dX7_readVariable_52 ci_m1 ?_
  refine lv_icmp_ne (tgt := 69) hx hb dX7_readVariable_53 (by decide) (fun hc => ?_) (fun hc => ?_)
  · have hm := it_f hc hm
    refine lv_aload_n hx hb dX7_readVariable_69 rfl (lv_at hl 0 rfl) ?_
    refine g_get C hw gC7_2 dX7_readVariable_70 ?_
    refine lv_iload_n hx hb dX7_readVariable_73 rfl (lv_at hl 1 rfl) ?_
    refine lv_iload_n hx hb dX7_readVariable_74 rfl (lv_at hl 2 rfl) ?_
    obtain ⟨r75, iv75, ar75, la75, pA75, pB75, hc75, hm⟩ := obc_some hm
    refine g_callv (As := [.int l1, .int l3]) (rest := []) C hw (kX6_setHomeB hc75) mtX6_setHome lkX7_124 oC6B hl.1 rfl rfl (Nat.le_of_ble_eq_true rfl) ⟨Nat.le_of_ble_eq_true rfl, Nat.le_of_ble_eq_true rfl⟩ dX7_readVariable_75 ⟨Nat.zero_le _, Nat.zero_le _⟩ (fun H locs hw => ?_)
    refine lv_iconst (v := 1) hx hb dX7_readVariable_78 ci_1 ?_
    cases hm
    exact g_zret C hw (Or.inr rfl) dX7_readVariable_79
  · have hm := it_t hc hm
    refine lv_aload_n hx hb dX7_readVariable_56 rfl (lv_at hl 0 rfl) ?_
    refine g_get C hw gC7_0 dX7_readVariable_57 ?_
    refine lv_bipush (v := (-11)) hx hb dX7_readVariable_60 cb_m11 ?_
    refine lv_iload_n hx hb dX7_readVariable_62 rfl (lv_at hl 1 rfl) ?_
    refine lv_iconst (v := 1) hx hb dX7_readVariable_63 ci_1 ?_
    refine lv_iadd hx hb dX7_readVariable_64 ?_
    obtain ⟨r65, iv65, ar65, la65, pA65, pB65, hc65, hm⟩ := obc_some hm
    refine g_calli (As := [.int (-11), .int (l1 + 1)]) (rest := []) C hw (kX8_fail hc65) mtX8_fail lkX7_121 oC8 hl.1 rfl rfl (Nat.le_of_ble_eq_true rfl) ⟨Nat.le_of_ble_eq_true rfl, Nat.le_of_ble_eq_true rfl⟩ dX7_readVariable_65 ⟨Nat.zero_le _, Nat.zero_le _⟩ (fun H locs hw => ?_)
    obtain ⟨hz, hm⟩ := it_z hm
    cases hm
    exact g_zret C hw hz dX7_readVariable_68
def mX7_readVariable_L26 : Nat → Int32 → Int32 → Int32 → mI → mA → mL → mA → mA → Option (Int32 × mI × mA × mL × mA × mA)
  | 0, _, _, _, _, _, _, _, _ => none
  | n + 1, l1, l3, l4, iv, ar, la, pA, pB => if l4 ≤ 0 then mX7_readVariable_J51 l1 l3 iv ar la pA pB else if l3 = (-1) then mX7_readVariable_J51 l1 l3 iv ar la pA pB else obc (mX6_outerB l3 iv ar la pA pB) (fun r41 iv41 ar41 la41 pA41 pB41 => mX7_readVariable_L26 n l1 r41 (l4 + (-1)) iv41 ar41 la41 pA41 pB41)
set_option maxRecDepth 100000 in
set_option maxHeartbeats 4000000 in
theorem wX7_readVariable_L26 (C : mCx p s m args meth c RX7 cX7_readVariable 5 (some .boolean) D cI cJ A) (n : Nat) : ∀ (l1 : Int32) (l3 : Int32) (l4 : Int32) (iv : mI) (ar : mA) (la : mL) (pA : mA) (pB : mA) (rz : Int32) (ivz : mI) (arz : mA) (laz : mL) (pAz : mA) (pBz : mA), mX7_readVariable_L26 n l1 l3 l4 iv ar la pA pB = some (rz, ivz, arz, laz, pAz, pBz) → ∀ (H : Heap) (locs : List Loc) (ls : Array Slot), lv_has ls 5 [(0, .ref (oc 7)), (1, .int l1), (3, .int l3), (4, .int l4)] → inW D A s (wC cI cJ oc ac pa pb aa ab xp xs pb cp mp iv ar la pA pB) H locs → W p l e (rmO 2 45) s m args below meth c H locs 0 0 (MQ below (ctQ D cI cJ (wC cI cJ oc ac pa pb aa ab xp xs pb cp mp ivz arz laz pAz pBz) A rz) args s 0 0 A) (F0 m 26 ls []) := by
  induction n with
  | zero =>
    intro l1 l3 l4 iv ar la pA pB rz ivz arz laz pAz pBz hm H locs ls hl hw
    have hm : (none : Option (Int32 × mI × mA × mL × mA × mA)) = some _ := hm
    cases hm
  | succ n ih =>
    intro l1 l3 l4 iv ar la pA pB rz ivz arz laz pAz pBz hm H locs ls hl hw
    have hx := C.1.1
    have hb := C.1.2.1
    unfold mX7_readVariable_L26 at hm
    refine lv_iload hx hb dX7_readVariable_26 (lv_at hl 3 rfl) ?_
    refine lv_if_le (tgt := 51) hx hb dX7_readVariable_28 (by decide) (fun hc => ?_) (fun hc => ?_)
    · have hm := it_t hc hm
      exact wX7_readVariable_J51 C _ _ _ _ _ _ _ _ _ _ _ _ _ hm _ _ _ (lv_sub hl [0, 1, 2] rfl) hw
    · have hm := it_f hc hm
      refine lv_iload_n hx hb dX7_readVariable_31 rfl (lv_at hl 2 rfl) ?_
      refine lv_iconst (v := (-1)) hx hb dX7_readVariable_32 ci_m1 ?_
      refine lv_icmp_eq (tgt := 51) hx hb dX7_readVariable_33 (by decide) (fun hc => ?_) (fun hc => ?_)
      · have hm := it_t hc hm
        exact wX7_readVariable_J51 C _ _ _ _ _ _ _ _ _ _ _ _ _ hm _ _ _ (lv_sub hl [0, 1, 2] rfl) hw
      · have hm := it_f hc hm
        refine lv_aload_n hx hb dX7_readVariable_36 rfl (lv_at hl 0 rfl) ?_
        refine g_get C hw gC7_2 dX7_readVariable_37 ?_
        refine lv_iload_n hx hb dX7_readVariable_40 rfl (lv_at hl 2 rfl) ?_
        obtain ⟨r41, iv41, ar41, la41, pA41, pB41, hc41, hm⟩ := obc_some hm
        refine g_calli (As := [.int l3]) (rest := []) C hw (kX6_outerB hc41) mtX6_outer lkX7_118 oC6B hl.1 rfl rfl (Nat.le_of_ble_eq_true rfl) ⟨Nat.le_of_ble_eq_true rfl, Nat.le_of_ble_eq_true rfl⟩ dX7_readVariable_41 ⟨Nat.zero_le _, Nat.zero_le _⟩ (fun H locs hw => ?_)
        refine lv_istore_n (lv' := [(3, .int r41), (0, .ref (oc 7)), (1, .int l1), (4, .int l4)]) hx hb dX7_readVariable_44 rfl hl (by decide) rfl (fun ls hl => ?_)
        refine lv_iinc (v := (l4 + (-1))) (lv' := [(4, .int (l4 + (-1))), (3, .int r41), (0, .ref (oc 7)), (1, .int l1)]) hx hb dX7_readVariable_45 hl (k := 3) rfl (ii_ ci_m1) (by decide) rfl (fun ls hl => ?_)
        refine lv_goto (tgt := 26) hx hb dX7_readVariable_48 (by decide) ?_
        exact ih _ _ _ _ _ _ _ _ _ _ _ _ _ _ hm _ _ _ (lv_sub hl [2, 3, 1, 0] rfl) hw
def mX7_readVariable (a1 : Int32) (a2 : Int32) (iv : mI) (ar : mA) (la : mL) (pA : mA) (pB : mA) : Option (Int32 × mI × mA × mL × mA × mA) := obc (mX8_take 0 2147483647 iv ar la pA pB) (fun r7 iv7 ar7 la7 pA7 pB7 => if r7 = 0 then some (0, iv7, ar7, la7, pA7, pB7) else obc (mX8_taken iv7 ar7 la7 pA7 pB7) (fun r21 iv21 ar21 la21 pA21 pB21 => mX7_readVariable_L26 bigF a1 a2 r21 iv21 ar21 la21 pA21 pB21))
set_option maxRecDepth 100000 in
set_option maxHeartbeats 4000000 in
theorem kX7_readVariable {a1 a2 : Int32} {iv ivz : mI} {ar arz : mA} {la laz : mL} {pA pAz : mA} {pB pBz : mA} {rz : Int32} (hm : mX7_readVariable a1 a2 iv ar la pA pB = some (rz, ivz, arz, laz, pAz, pBz)) : Ct l D cI cJ yX7_readVariable cX7_readVariable 5 (some .boolean) 2 45 [.ref (oc 7), .int a1, .int a2] (wC cI cJ oc ac pa pb aa ab xp xs pb cp mp iv ar la pA pB) (wC cI cJ oc ac pa pb aa ab xp xs pb cp mp ivz arz laz pAz pBz) rz := by
  intro sz
  refine ct_of (by decide) (Nat.le_of_ble_eq_true rfl) ?_
  intro p e s m args below meth c C hw ls hl
  have hl : lv_has ls 5 [(0, .ref (oc 7)), (1, .int a1), (2, .int a2)] := hl
  have hx := C.1.1
  have hb := C.1.2.1
  have hown := C.1.2.2.2.1
  unfold mX7_readVariable at hm
  refine lv_aload_n hx hb dX7_readVariable_0 rfl (lv_at hl 0 rfl) ?_
  refine g_get C hw gC7_0 dX7_readVariable_1 ?_
  refine lv_iconst (v := 0) hx hb dX7_readVariable_4 ci_0 ?_
  refine lv_ldc hx hb hown (C.1.2.2.2.2 _ cstX7_113) dX7_readVariable_5 ?_
  obtain ⟨r7, iv7, ar7, la7, pA7, pB7, hc7, hm⟩ := obc_some hm
  refine g_calli (As := [.int 0, .int 2147483647]) (rest := []) C hw (kX8_take hc7) mtX8_take lkX7_69 oC8 hl.1 rfl rfl (Nat.le_of_ble_eq_true rfl) ⟨Nat.le_of_ble_eq_true rfl, Nat.le_of_ble_eq_true rfl⟩ dX7_readVariable_7 ⟨Nat.zero_le _, Nat.zero_le _⟩ (fun H locs hw => ?_)
  refine lv_if_ne (tgt := 15) hx hb dX7_readVariable_10 (by decide) (fun hc => ?_) (fun hc => ?_)
  · have hm := it_f hc hm
    refine lv_iload_n hx hb dX7_readVariable_15 rfl (lv_at hl 2 rfl) ?_
    refine lv_istore_n (lv' := [(3, .int a2), (0, .ref (oc 7)), (1, .int a1), (2, .int a2)]) hx hb dX7_readVariable_16 rfl hl (by decide) rfl (fun ls hl => ?_)
    refine lv_aload_n hx hb dX7_readVariable_17 rfl (lv_at hl 1 rfl) ?_
    refine g_get C hw gC7_0 dX7_readVariable_18 ?_
    obtain ⟨r21, iv21, ar21, la21, pA21, pB21, hc21, hm⟩ := obc_some hm
    refine g_calli (As := []) (rest := []) C hw (kX8_taken hc21) mtX8_taken lkX7_73 oC8 hl.1 rfl rfl (Nat.le_of_ble_eq_true rfl) ⟨Nat.le_of_ble_eq_true rfl, Nat.le_of_ble_eq_true rfl⟩ dX7_readVariable_21 ⟨Nat.zero_le _, Nat.zero_le _⟩ (fun H locs hw => ?_)
    refine lv_istore (lv' := [(4, .int r21), (3, .int a2), (0, .ref (oc 7)), (1, .int a1), (2, .int a2)]) hx hb dX7_readVariable_24 hl (by decide) rfl (fun ls hl => ?_)
    exact wX7_readVariable_L26 C bigF _ _ _ _ _ _ _ _ _ _ _ _ _ _ hm _ _ _ (lv_sub hl [2, 3, 1, 0] rfl) hw
  · have hm := it_t hc hm
    refine lv_iconst (v := 0) hx hb dX7_readVariable_13 ci_0 ?_
    cases hm
    exact g_zret C hw (Or.inl rfl) dX7_readVariable_14
def mX3_partOf_J27 (l1 : Int32) (l2 : Int32) (s0 : Int32) (iv : mI) (ar : mA) (la : mL) (pA : mA) (pB : mA) : Option (Int32 × mI × mA × mL × mA × mA) := if s0 = 0 then some ((-1), iv, ar, la, pA, pB) else if l1 < 0 ∨ 400 ≤ l1.toNatClampNeg then none else if (((ar 301 l1.toNatClampNeg) >>> (l2 &&& 31)) &&& 1) = 1 then if ((l1 * 8) + l2) < 0 ∨ 3200 ≤ ((l1 * 8) + l2).toNatClampNeg then none else some ((ar 302 ((l1 * 8) + l2).toNatClampNeg), iv, ar, la, pA, pB) else some ((-1), iv, ar, la, pA, pB)
set_option maxRecDepth 100000 in
set_option maxHeartbeats 4000000 in
theorem wX3_partOf_J27 (C : mCx p s m args meth c RX3 cX3_partOf 4 (some .int) D cI cJ A) : ∀ (l1 : Int32) (l2 : Int32) (s0 : Int32) (iv : mI) (ar : mA) (la : mL) (pA : mA) (pB : mA) (rz : Int32) (ivz : mI) (arz : mA) (laz : mL) (pAz : mA) (pBz : mA), mX3_partOf_J27 l1 l2 s0 iv ar la pA pB = some (rz, ivz, arz, laz, pAz, pBz) → ∀ (H : Heap) (locs : List Loc) (ls : Array Slot), lv_has ls 4 [(0, .ref (oc 3)), (1, .int l1), (2, .int l2)] → inW D A s (wC cI cJ oc ac pa pb aa ab xp xs tp cp mp iv ar la pA pB) H locs → W p l e (rmO 0 0) s m args below meth c H locs 0 0 (MQ below (ctQ D cI cJ (wC cI cJ oc ac pa pb aa ab xp xs tp cp mp ivz arz laz pAz pBz) A rz) args s 0 0 A) (F0 m 27 ls [.int s0]) := by
  intro l1 l2 s0 iv ar la pA pB rz ivz arz laz pAz pBz hm H locs ls hl hw
  have hx := C.1.1
  have hb := C.1.2.1
  unfold mX3_partOf_J27 at hm
  refine lv_istore_n (lv' := [(3, .int s0), (0, .ref (oc 3)), (1, .int l1), (2, .int l2)]) hx hb dX3_partOf_27 rfl hl (by decide) rfl (fun ls hl => ?_)
  refine lv_iload_n hx hb dX3_partOf_28 rfl (lv_at hl 0 rfl) ?_
  refine lv_if_eq (tgt := 60) hx hb dX3_partOf_29 (by decide) (fun hc => ?_) (fun hc => ?_)
  · have hm := it_t hc hm
    refine lv_iconst (v := (-1)) hx hb dX3_partOf_60 ci_m1 ?_
    cases hm
    exact g_iret C hw dX3_partOf_61
  · have hm := it_f hc hm
    refine lv_aload_n hx hb dX3_partOf_32 rfl (lv_at hl 1 rfl) ?_
    refine g_get C hw gC3_1 dX3_partOf_33 ?_
    refine lv_iload_n hx hb dX3_partOf_36 rfl (lv_at hl 2 rfl) ?_
    obtain ⟨hi, hm⟩ := it_a hm
    refine g_ald C hw aC3_1 hi dX3_partOf_37 ?_
    refine lv_iload_n hx hb dX3_partOf_38 rfl (lv_at hl 3 rfl) ?_
    refine lv_ishr hx hb dX3_partOf_39 ?_
    refine lv_iconst (v := 1) hx hb dX3_partOf_40 ci_1 ?_
    refine lv_iand hx hb dX3_partOf_41 ?_
    refine lv_iconst (v := 1) hx hb dX3_partOf_42 ci_1 ?_
    refine lv_icmp_ne (tgt := 60) hx hb dX3_partOf_43 (by decide) (fun hc => ?_) (fun hc => ?_)
    · have hm := it_f hc hm
      refine lv_iconst (v := (-1)) hx hb dX3_partOf_60 ci_m1 ?_
      cases hm
      exact g_iret C hw dX3_partOf_61
    · have hm := it_t hc hm
      refine lv_aload_n hx hb dX3_partOf_46 rfl (lv_at hl 1 rfl) ?_
      refine g_get C hw gC3_2 dX3_partOf_47 ?_
      refine lv_iload_n hx hb dX3_partOf_50 rfl (lv_at hl 2 rfl) ?_
      refine lv_bipush (v := 8) hx hb dX3_partOf_51 cb_8 ?_
      refine lv_imul hx hb dX3_partOf_53 ?_
      refine lv_iload_n hx hb dX3_partOf_54 rfl (lv_at hl 3 rfl) ?_
      refine lv_iadd hx hb dX3_partOf_55 ?_
      obtain ⟨hi, hm⟩ := it_a hm
      refine g_ald C hw aC3_2 hi dX3_partOf_56 ?_
      refine lv_goto (tgt := 61) hx hb dX3_partOf_57 (by decide) ?_
      cases hm
      exact g_iret C hw dX3_partOf_61
def mX3_partOf (a1 : Int32) (a2 : Int32) (iv : mI) (ar : mA) (la : mL) (pA : mA) (pB : mA) : Option (Int32 × mI × mA × mL × mA × mA) := if a1 < 0 then mX3_partOf_J27 a1 a2 0 iv ar la pA pB else if (iv 303) ≤ a1 then mX3_partOf_J27 a1 a2 0 iv ar la pA pB else if a2 < 0 then mX3_partOf_J27 a1 a2 0 iv ar la pA pB else if 8 ≤ a2 then mX3_partOf_J27 a1 a2 0 iv ar la pA pB else mX3_partOf_J27 a1 a2 1 iv ar la pA pB
set_option maxRecDepth 100000 in
set_option maxHeartbeats 4000000 in
theorem kX3_partOf {a1 a2 : Int32} {iv ivz : mI} {ar arz : mA} {la laz : mL} {pA pAz : mA} {pB pBz : mA} {rz : Int32} (hm : mX3_partOf a1 a2 iv ar la pA pB = some (rz, ivz, arz, laz, pAz, pBz)) : Ct l D cI cJ yX3_partOf cX3_partOf 4 (some .int) 0 0 [.ref (oc 3), .int a1, .int a2] (wC cI cJ oc ac pa pb aa ab xp xs tp cp mp iv ar la pA pB) (wC cI cJ oc ac pa pb aa ab xp xs tp cp mp ivz arz laz pAz pBz) rz := by
  intro sz
  refine ct_of (by decide) (Nat.le_of_ble_eq_true rfl) ?_
  intro p e s m args below meth c C hw ls hl
  have hl : lv_has ls 4 [(0, .ref (oc 3)), (1, .int a1), (2, .int a2)] := hl
  have hx := C.1.1
  have hb := C.1.2.1
  unfold mX3_partOf at hm
  refine lv_iload_n hx hb dX3_partOf_0 rfl (lv_at hl 1 rfl) ?_
  refine lv_if_lt (tgt := 26) hx hb dX3_partOf_1 (by decide) (fun hc => ?_) (fun hc => ?_)
  · have hm := it_t hc hm
    refine lv_iconst (v := 0) hx hb dX3_partOf_26 ci_0 ?_
    exact wX3_partOf_J27 C _ _ _ _ _ _ _ _ _ _ _ _ _ _ hm _ _ _ (lv_sub hl [0, 1, 2] rfl) hw
  · have hm := it_f hc hm
    refine lv_iload_n hx hb dX3_partOf_4 rfl (lv_at hl 1 rfl) ?_
    refine lv_aload_n hx hb dX3_partOf_5 rfl (lv_at hl 0 rfl) ?_
    refine g_get C hw gC3_3 dX3_partOf_6 ?_
    refine lv_icmp_ge (tgt := 26) hx hb dX3_partOf_9 (by decide) (fun hc => ?_) (fun hc => ?_)
    · have hm := it_t hc hm
      refine lv_iconst (v := 0) hx hb dX3_partOf_26 ci_0 ?_
      exact wX3_partOf_J27 C _ _ _ _ _ _ _ _ _ _ _ _ _ _ hm _ _ _ (lv_sub hl [0, 1, 2] rfl) hw
    · have hm := it_f hc hm
      refine lv_iload_n hx hb dX3_partOf_12 rfl (lv_at hl 2 rfl) ?_
      refine lv_if_lt (tgt := 26) hx hb dX3_partOf_13 (by decide) (fun hc => ?_) (fun hc => ?_)
      · have hm := it_t hc hm
        refine lv_iconst (v := 0) hx hb dX3_partOf_26 ci_0 ?_
        exact wX3_partOf_J27 C _ _ _ _ _ _ _ _ _ _ _ _ _ _ hm _ _ _ (lv_sub hl [0, 1, 2] rfl) hw
      · have hm := it_f hc hm
        refine lv_iload_n hx hb dX3_partOf_16 rfl (lv_at hl 2 rfl) ?_
        refine lv_bipush (v := 8) hx hb dX3_partOf_17 cb_8 ?_
        refine lv_icmp_ge (tgt := 26) hx hb dX3_partOf_19 (by decide) (fun hc => ?_) (fun hc => ?_)
        · have hm := it_t hc hm
          refine lv_iconst (v := 0) hx hb dX3_partOf_26 ci_0 ?_
          exact wX3_partOf_J27 C _ _ _ _ _ _ _ _ _ _ _ _ _ _ hm _ _ _ (lv_sub hl [0, 1, 2] rfl) hw
        · have hm := it_f hc hm
          refine lv_iconst (v := 1) hx hb dX3_partOf_22 ci_1 ?_
          refine lv_goto (tgt := 27) hx hb dX3_partOf_23 (by decide) ?_
          exact wX3_partOf_J27 C _ _ _ _ _ _ _ _ _ _ _ _ _ _ hm _ _ _ (lv_sub hl [0, 1, 2] rfl) hw
def mX7_readTag (a1 : Int32) (iv : mI) (ar : mA) (la : mL) (pA : mA) (pB : mA) : Option (Int32 × mI × mA × mL × mA × mA) := obc (mX3_size iv ar la pA pB) (fun r9 iv9 ar9 la9 pA9 pB9 => obc (mX8_take 0 (r9 - 1) iv9 ar9 la9 pA9 pB9) (fun r14 iv14 ar14 la14 pA14 pB14 => if r14 = 0 then some (0, iv14, ar14, la14, pA14, pB14) else obc (mX8_taken iv14 ar14 la14 pA14 pB14) (fun r26 iv26 ar26 la26 pA26 pB26 => obc (mX3_kindOf r26 iv26 ar26 la26 pA26 pB26) (fun r35 iv35 ar35 la35 pA35 pB35 => if r35 = 6 then obc (mX8_take 0 7 iv35 ar35 la35 pA35 pB35) (fun r63 iv63 ar63 la63 pA63 pB63 => if r63 = 0 then some (0, iv63, ar63, la63, pA63, pB63) else obc (mX8_taken iv63 ar63 la63 pA63 pB63) (fun r80 iv80 ar80 la80 pA80 pB80 => obc (mX3_partOf r26 r80 iv80 ar80 la80 pA80 pB80) (fun r83 iv83 ar83 la83 pA83 pB83 => if r83 = (-1) then obc (mX8_fail (-11) (a1 + 2) iv83 ar83 la83 pA83 pB83) (fun r99 iv99 ar99 la99 pA99 pB99 => if r99 = 0 then some (0, iv99, ar99, la99, pA99, pB99) else some (1, iv99, ar99, la99, pA99, pB99)) else some (1, iv83, ar83, la83, pA83, pB83)))) else obc (mX8_fail (-11) (a1 + 1) iv35 ar35 la35 pA35 pB35) (fun r52 iv52 ar52 la52 pA52 pB52 => if r52 = 0 ∨ r52 = 1 then some (r52, iv52, ar52, la52, pA52, pB52) else none)))))
set_option maxRecDepth 100000 in
set_option maxHeartbeats 4000000 in
theorem kX7_readTag {a1 : Int32} {iv ivz : mI} {ar arz : mA} {la laz : mL} {pA pAz : mA} {pB pBz : mA} {rz : Int32} (hm : mX7_readTag a1 iv ar la pA pB = some (rz, ivz, arz, laz, pAz, pBz)) : Ct l D cI cJ yX7_readTag cX7_readTag 3 (some .boolean) 2 45 [.ref (oc 7), .int a1] (wC cI cJ oc ac pa pb aa ab xp xs pb cp mp iv ar la pA pB) (wC cI cJ oc ac pa pb aa ab xp xs pb cp mp ivz arz laz pAz pBz) rz := by
  intro sz
  refine ct_of (by decide) (Nat.le_of_ble_eq_true rfl) ?_
  intro p e s m args below meth c C hw ls hl
  have hl : lv_has ls 3 [(0, .ref (oc 7)), (1, .int a1)] := hl
  have hx := C.1.1
  have hb := C.1.2.1
  unfold mX7_readTag at hm
  refine lv_aload_n hx hb dX7_readTag_0 rfl (lv_at hl 0 rfl) ?_
  refine g_get C hw gC7_0 dX7_readTag_1 ?_
  refine lv_iconst (v := 0) hx hb dX7_readTag_4 ci_0 ?_
  refine lv_aload_n hx hb dX7_readTag_5 rfl (lv_at hl 0 rfl) ?_
  refine g_get C hw gC7_1 dX7_readTag_6 ?_
  obtain ⟨r9, iv9, ar9, la9, pA9, pB9, hc9, hm⟩ := obc_some hm
  refine g_calli (As := []) (rest := [.int 0, .ref (oc 8)]) C hw (kX3_size hc9) mtX3_size lkX7_107 oC3 hl.1 rfl rfl (Nat.le_of_ble_eq_true rfl) ⟨Nat.le_of_ble_eq_true rfl, Nat.le_of_ble_eq_true rfl⟩ dX7_readTag_9 ⟨Nat.zero_le _, Nat.zero_le _⟩ (fun H locs hw => ?_)
  refine lv_iconst (v := 1) hx hb dX7_readTag_12 ci_1 ?_
  refine lv_isub hx hb dX7_readTag_13 ?_
  obtain ⟨r14, iv14, ar14, la14, pA14, pB14, hc14, hm⟩ := obc_some hm
  refine g_calli (As := [.int 0, .int (r9 - 1)]) (rest := []) C hw (kX8_take hc14) mtX8_take lkX7_69 oC8 hl.1 rfl rfl (Nat.le_of_ble_eq_true rfl) ⟨Nat.le_of_ble_eq_true rfl, Nat.le_of_ble_eq_true rfl⟩ dX7_readTag_14 ⟨Nat.zero_le _, Nat.zero_le _⟩ (fun H locs hw => ?_)
  refine lv_if_ne (tgt := 22) hx hb dX7_readTag_17 (by decide) (fun hc => ?_) (fun hc => ?_)
  · have hm := it_f hc hm
    refine lv_aload_n hx hb dX7_readTag_22 rfl (lv_at hl 0 rfl) ?_
    refine g_get C hw gC7_0 dX7_readTag_23 ?_
    obtain ⟨r26, iv26, ar26, la26, pA26, pB26, hc26, hm⟩ := obc_some hm
    refine g_calli (As := []) (rest := []) C hw (kX8_taken hc26) mtX8_taken lkX7_73 oC8 hl.1 rfl rfl (Nat.le_of_ble_eq_true rfl) ⟨Nat.le_of_ble_eq_true rfl, Nat.le_of_ble_eq_true rfl⟩ dX7_readTag_26 ⟨Nat.zero_le _, Nat.zero_le _⟩ (fun H locs hw => ?_)
    refine lv_istore_n (lv' := [(2, .int r26), (0, .ref (oc 7)), (1, .int a1)]) hx hb dX7_readTag_29 rfl hl (by decide) rfl (fun ls hl => ?_)
    refine lv_aload_n hx hb dX7_readTag_30 rfl (lv_at hl 1 rfl) ?_
    refine g_get C hw gC7_1 dX7_readTag_31 ?_
    refine lv_iload_n hx hb dX7_readTag_34 rfl (lv_at hl 0 rfl) ?_
    obtain ⟨r35, iv35, ar35, la35, pA35, pB35, hc35, hm⟩ := obc_some hm
    refine g_calli (As := [.int r26]) (rest := []) C hw (kX3_kindOf hc35) mtX3_kindOf lkX7_127 oC3 hl.1 rfl rfl (Nat.le_of_ble_eq_true rfl) ⟨Nat.le_of_ble_eq_true rfl, Nat.le_of_ble_eq_true rfl⟩ dX7_readTag_35 ⟨Nat.zero_le _, Nat.zero_le _⟩ (fun H locs hw => ?_)
    refine lv_bipush (v := 6) hx hb dX7_readTag_38 cb_6 ?_
    refine lv_icmp_eq (tgt := 56) hx hb dX7_readTag_40 (by decide) (fun hc => ?_) (fun hc => ?_)
    · have hm := it_t hc hm
      refine lv_aload_n hx hb dX7_readTag_56 rfl (lv_at hl 1 rfl) ?_
      refine g_get C hw gC7_0 dX7_readTag_57 ?_
      refine lv_iconst (v := 0) hx hb dX7_readTag_60 ci_0 ?_
      refine lv_bipush (v := 7) hx hb dX7_readTag_61 cb_7 ?_
      obtain ⟨r63, iv63, ar63, la63, pA63, pB63, hc63, hm⟩ := obc_some hm
      refine g_calli (As := [.int 0, .int 7]) (rest := []) C hw (kX8_take hc63) mtX8_take lkX7_69 oC8 hl.1 rfl rfl (Nat.le_of_ble_eq_true rfl) ⟨Nat.le_of_ble_eq_true rfl, Nat.le_of_ble_eq_true rfl⟩ dX7_readTag_63 ⟨Nat.zero_le _, Nat.zero_le _⟩ (fun H locs hw => ?_)
      refine lv_if_ne (tgt := 71) hx hb dX7_readTag_66 (by decide) (fun hc => ?_) (fun hc => ?_)
      · have hm := it_f hc hm
        refine lv_aload_n hx hb dX7_readTag_71 rfl (lv_at hl 1 rfl) ?_
        refine g_get C hw gC7_1 dX7_readTag_72 ?_
        refine lv_iload_n hx hb dX7_readTag_75 rfl (lv_at hl 0 rfl) ?_
        refine lv_aload_n hx hb dX7_readTag_76 rfl (lv_at hl 1 rfl) ?_
        refine g_get C hw gC7_0 dX7_readTag_77 ?_
        obtain ⟨r80, iv80, ar80, la80, pA80, pB80, hc80, hm⟩ := obc_some hm
        refine g_calli (As := []) (rest := [.int r26, .ref (oc 3)]) C hw (kX8_taken hc80) mtX8_taken lkX7_73 oC8 hl.1 rfl rfl (Nat.le_of_ble_eq_true rfl) ⟨Nat.le_of_ble_eq_true rfl, Nat.le_of_ble_eq_true rfl⟩ dX7_readTag_80 ⟨Nat.zero_le _, Nat.zero_le _⟩ (fun H locs hw => ?_)
        obtain ⟨r83, iv83, ar83, la83, pA83, pB83, hc83, hm⟩ := obc_some hm
        refine g_calli (As := [.int r26, .int r80]) (rest := []) C hw (kX3_partOf hc83) mtX3_partOf lkX7_130 oC3 hl.1 rfl rfl (Nat.le_of_ble_eq_true rfl) ⟨Nat.le_of_ble_eq_true rfl, Nat.le_of_ble_eq_true rfl⟩ dX7_readTag_83 ⟨Nat.zero_le _, Nat.zero_le _⟩ (fun H locs hw => ?_)
        refine lv_iconst (v := (-1)) hx hb dX7_readTag_86 ci_m1 ?_
        refine lv_icmp_ne (tgt := 105) hx hb dX7_readTag_87 (by decide) (fun hc => ?_) (fun hc => ?_)
        · have hm := it_f hc hm
          refine lv_iconst (v := 1) hx hb dX7_readTag_105 ci_1 ?_
          refine lv_goto (tgt := 110) hx hb dX7_readTag_106 (by decide) ?_
          cases hm
          exact g_zret C hw (Or.inr rfl) dX7_readTag_110
        · have hm := it_t hc hm
          refine lv_aload_n hx hb dX7_readTag_90 rfl (lv_at hl 1 rfl) ?_
          refine g_get C hw gC7_0 dX7_readTag_91 ?_
          refine lv_bipush (v := (-11)) hx hb dX7_readTag_94 cb_m11 ?_
          refine lv_iload_n hx hb dX7_readTag_96 rfl (lv_at hl 2 rfl) ?_
          refine lv_iconst (v := 2) hx hb dX7_readTag_97 ci_2 ?_
          refine lv_iadd hx hb dX7_readTag_98 ?_
          obtain ⟨r99, iv99, ar99, la99, pA99, pB99, hc99, hm⟩ := obc_some hm
          refine g_calli (As := [.int (-11), .int (a1 + 2)]) (rest := []) C hw (kX8_fail hc99) mtX8_fail lkX7_121 oC8 hl.1 rfl rfl (Nat.le_of_ble_eq_true rfl) ⟨Nat.le_of_ble_eq_true rfl, Nat.le_of_ble_eq_true rfl⟩ dX7_readTag_99 ⟨Nat.zero_le _, Nat.zero_le _⟩ (fun H locs hw => ?_)
          refine lv_if_eq (tgt := 109) hx hb dX7_readTag_102 (by decide) (fun hc => ?_) (fun hc => ?_)
          · have hm := it_t hc hm
            refine lv_iconst (v := 0) hx hb dX7_readTag_109 ci_0 ?_
            cases hm
            exact g_zret C hw (Or.inl rfl) dX7_readTag_110
          · have hm := it_f hc hm
            refine lv_iconst (v := 1) hx hb dX7_readTag_105 ci_1 ?_
            refine lv_goto (tgt := 110) hx hb dX7_readTag_106 (by decide) ?_
            cases hm
            exact g_zret C hw (Or.inr rfl) dX7_readTag_110
      · have hm := it_t hc hm
        refine lv_iconst (v := 0) hx hb dX7_readTag_69 ci_0 ?_
        cases hm
        exact g_zret C hw (Or.inl rfl) dX7_readTag_70
    · have hm := it_f hc hm
      refine lv_aload_n hx hb dX7_readTag_43 rfl (lv_at hl 1 rfl) ?_
      refine g_get C hw gC7_0 dX7_readTag_44 ?_
      refine lv_bipush (v := (-11)) hx hb dX7_readTag_47 cb_m11 ?_
      refine lv_iload_n hx hb dX7_readTag_49 rfl (lv_at hl 2 rfl) ?_
      refine lv_iconst (v := 1) hx hb dX7_readTag_50 ci_1 ?_
      refine lv_iadd hx hb dX7_readTag_51 ?_
      obtain ⟨r52, iv52, ar52, la52, pA52, pB52, hc52, hm⟩ := obc_some hm
      refine g_calli (As := [.int (-11), .int (a1 + 1)]) (rest := []) C hw (kX8_fail hc52) mtX8_fail lkX7_121 oC8 hl.1 rfl rfl (Nat.le_of_ble_eq_true rfl) ⟨Nat.le_of_ble_eq_true rfl, Nat.le_of_ble_eq_true rfl⟩ dX7_readTag_52 ⟨Nat.zero_le _, Nat.zero_le _⟩ (fun H locs hw => ?_)
      obtain ⟨hz, hm⟩ := it_z hm
      cases hm
      exact g_zret C hw hz dX7_readTag_55
  · have hm := it_t hc hm
    refine lv_iconst (v := 0) hx hb dX7_readTag_20 ci_0 ?_
    cases hm
    exact g_zret C hw (Or.inl rfl) dX7_readTag_21
def mX7_readHead (a1 : Int32) (a2 : Int32) (a3 : Int32) (iv : mI) (ar : mA) (la : mL) (pA : mA) (pB : mA) : Option (Int32 × mI × mA × mL × mA × mA) := if a2 = 20 then obc (mX7_readVariable a1 a3 iv ar la pA pB) (fun r75 iv75 ar75 la75 pA75 pB75 => if r75 = 0 then some ((-1), iv75, ar75, la75, pA75, pB75) else some (0, iv75, ar75, la75, pA75, pB75)) else if a2 = 21 then obc (mX3_size iv ar la pA pB) (fun r96 iv96 ar96 la96 pA96 pB96 => obc (mX8_take 0 (r96 - 1) iv96 ar96 la96 pA96 pB96) (fun r101 iv101 ar101 la101 pA101 pB101 => if r101 = 0 then some ((-1), iv101, ar101, la101, pA101, pB101) else some (1, iv101, ar101, la101, pA101, pB101))) else if a2 = 22 then some (2, iv, ar, la, pA, pB) else if a2 = 23 then obc (mX8_take (-2147483648) 2147483647 iv ar la pA pB) (fun r121 iv121 ar121 la121 pA121 pB121 => if r121 = 0 then some ((-1), iv121, ar121, la121, pA121, pB121) else some (0, iv121, ar121, la121, pA121, pB121)) else if a2 = 24 then some (2, iv, ar, la, pA, pB) else if a2 = 25 then some (2, iv, ar, la, pA, pB) else if a2 = 26 then some (0, iv, ar, la, pA, pB) else if a2 = 27 then some (0, iv, ar, la, pA, pB) else if a2 = 28 then some (3, iv, ar, la, pA, pB) else if a2 = 29 then obc (mX8_take 0 8 iv ar la pA pB) (fun r140 iv140 ar140 la140 pA140 pB140 => if r140 = 0 then some ((-1), iv140, ar140, la140, pA140, pB140) else obc (mX8_taken iv140 ar140 la140 pA140 pB140) (fun r150 iv150 ar150 la150 pA150 pB150 => some (r150, iv150, ar150, la150, pA150, pB150))) else if a2 = 30 then obc (mX8_take 0 7 iv ar la pA pB) (fun r192 iv192 ar192 la192 pA192 pB192 => if r192 = 0 then some ((-1), iv192, ar192, la192, pA192, pB192) else some (1, iv192, ar192, la192, pA192, pB192)) else if a2 = 31 then obc (mX7_readTag a1 iv ar la pA pB) (fun r206 iv206 ar206 la206 pA206 pB206 => if r206 = 0 then some ((-1), iv206, ar206, la206, pA206, pB206) else some (1, iv206, ar206, la206, pA206, pB206)) else if a2 = 32 then obc (mX8_take 0 8 iv ar la pA pB) (fun r165 iv165 ar165 la165 pA165 pB165 => if r165 = 0 then some ((-1), iv165, ar165, la165, pA165, pB165) else obc (mX8_taken iv165 ar165 la165 pA165 pB165) (fun r175 iv175 ar175 la175 pA175 pB175 => some ((r175 + 1), iv175, ar175, la175, pA175, pB175))) else if a2 = 33 then obc (mX3_size iv ar la pA pB) (fun r96 iv96 ar96 la96 pA96 pB96 => obc (mX8_take 0 (r96 - 1) iv96 ar96 la96 pA96 pB96) (fun r101 iv101 ar101 la101 pA101 pB101 => if r101 = 0 then some ((-1), iv101, ar101, la101, pA101, pB101) else some (1, iv101, ar101, la101, pA101, pB101))) else some (0, iv, ar, la, pA, pB)
set_option maxRecDepth 100000 in
set_option maxHeartbeats 4000000 in
theorem kX7_readHead {a1 a2 a3 : Int32} {iv ivz : mI} {ar arz : mA} {la laz : mL} {pA pAz : mA} {pB pBz : mA} {rz : Int32} (hm : mX7_readHead a1 a2 a3 iv ar la pA pB = some (rz, ivz, arz, laz, pAz, pBz)) : Ct l D cI cJ yX7_readHead cX7_readHead 4 (some .int) 3 69 [.ref (oc 7), .int a1, .int a2, .int a3] (wC cI cJ oc ac pa pb aa ab xp xs pb cp mp iv ar la pA pB) (wC cI cJ oc ac pa pb aa ab xp xs pb cp mp ivz arz laz pAz pBz) rz := by
  intro sz
  refine ct_of (by decide) (Nat.le_of_ble_eq_true rfl) ?_
  intro p e s m args below meth c C hw ls hl
  have hl : lv_has ls 4 [(0, .ref (oc 7)), (1, .int a1), (2, .int a2), (3, .int a3)] := hl
  have hx := C.1.1
  have hb := C.1.2.1
  have hown := C.1.2.2.2.1
  unfold mX7_readHead at hm
  refine lv_iload_n hx hb dX7_readHead_0 rfl (lv_at hl 2 rfl) ?_
  refine br_by (c := a2 = 20) (fun hc => ?_) (fun hc20 => ?_)
  · have hm := it_t hc hm
    refine lv_tableIn (off := 71) (tgt := 72) hx hb dX7_readHead_1 (by rw [hc]; decide) (by rw [hc]; decide) (by rw [hc]; rfl) (by decide) ?_
    refine lv_aload_n hx hb dX7_readHead_72 rfl (lv_at hl 0 rfl) ?_
    refine lv_iload_n hx hb dX7_readHead_73 rfl (lv_at hl 1 rfl) ?_
    refine lv_iload_n hx hb dX7_readHead_74 rfl (lv_at hl 3 rfl) ?_
    obtain ⟨r75, iv75, ar75, la75, pA75, pB75, hc75, hm⟩ := obc_some hm
    refine g_calli (As := [.int a1, .int a3]) (rest := []) C hw (kX7_readVariable hc75) mtX7_readVariable lkX7_104 oC7 hl.1 rfl rfl (Nat.le_of_ble_eq_true rfl) ⟨Nat.le_of_ble_eq_true rfl, Nat.le_of_ble_eq_true rfl⟩ dX7_readHead_75 ⟨Nat.zero_le _, Nat.zero_le _⟩ (fun H locs hw => ?_)
    refine lv_if_eq (tgt := 85) hx hb dX7_readHead_78 (by decide) (fun hc => ?_) (fun hc => ?_)
    · have hm := it_t hc hm
      refine lv_iconst (v := (-1)) hx hb dX7_readHead_85 ci_m1 ?_
      cases hm
      exact g_iret C hw dX7_readHead_86
    · have hm := it_f hc hm
      refine lv_iconst (v := 0) hx hb dX7_readHead_81 ci_0 ?_
      refine lv_goto (tgt := 86) hx hb dX7_readHead_82 (by decide) ?_
      cases hm
      exact g_iret C hw dX7_readHead_86
  · have hm := it_f hc20 hm
    refine br_by (c := a2 = 21) (fun hc => ?_) (fun hc21 => ?_)
    · have hm := it_t hc hm
      refine lv_tableIn (off := 86) (tgt := 87) hx hb dX7_readHead_1 (by rw [hc]; decide) (by rw [hc]; decide) (by rw [hc]; rfl) (by decide) ?_
      refine lv_aload_n hx hb dX7_readHead_87 rfl (lv_at hl 0 rfl) ?_
      refine g_get C hw gC7_0 dX7_readHead_88 ?_
      refine lv_iconst (v := 0) hx hb dX7_readHead_91 ci_0 ?_
      refine lv_aload_n hx hb dX7_readHead_92 rfl (lv_at hl 0 rfl) ?_
      refine g_get C hw gC7_1 dX7_readHead_93 ?_
      obtain ⟨r96, iv96, ar96, la96, pA96, pB96, hc96, hm⟩ := obc_some hm
      refine g_calli (As := []) (rest := [.int 0, .ref (oc 8)]) C hw (kX3_size hc96) mtX3_size lkX7_107 oC3 hl.1 rfl rfl (Nat.le_of_ble_eq_true rfl) ⟨Nat.le_of_ble_eq_true rfl, Nat.le_of_ble_eq_true rfl⟩ dX7_readHead_96 ⟨Nat.zero_le _, Nat.zero_le _⟩ (fun H locs hw => ?_)
      refine lv_iconst (v := 1) hx hb dX7_readHead_99 ci_1 ?_
      refine lv_isub hx hb dX7_readHead_100 ?_
      obtain ⟨r101, iv101, ar101, la101, pA101, pB101, hc101, hm⟩ := obc_some hm
      refine g_calli (As := [.int 0, .int (r96 - 1)]) (rest := []) C hw (kX8_take hc101) mtX8_take lkX7_69 oC8 hl.1 rfl rfl (Nat.le_of_ble_eq_true rfl) ⟨Nat.le_of_ble_eq_true rfl, Nat.le_of_ble_eq_true rfl⟩ dX7_readHead_101 ⟨Nat.zero_le _, Nat.zero_le _⟩ (fun H locs hw => ?_)
      refine lv_if_eq (tgt := 111) hx hb dX7_readHead_104 (by decide) (fun hc => ?_) (fun hc => ?_)
      · have hm := it_t hc hm
        refine lv_iconst (v := (-1)) hx hb dX7_readHead_111 ci_m1 ?_
        cases hm
        exact g_iret C hw dX7_readHead_112
      · have hm := it_f hc hm
        refine lv_iconst (v := 1) hx hb dX7_readHead_107 ci_1 ?_
        refine lv_goto (tgt := 112) hx hb dX7_readHead_108 (by decide) ?_
        cases hm
        exact g_iret C hw dX7_readHead_112
    · have hm := it_f hc21 hm
      refine br_by (c := a2 = 22) (fun hc => ?_) (fun hc22 => ?_)
      · have hm := it_t hc hm
        refine lv_tableIn (off := 219) (tgt := 220) hx hb dX7_readHead_1 (by rw [hc]; decide) (by rw [hc]; decide) (by rw [hc]; rfl) (by decide) ?_
        refine lv_iconst (v := 2) hx hb dX7_readHead_220 ci_2 ?_
        cases hm
        exact g_iret C hw dX7_readHead_221
      · have hm := it_f hc22 hm
        refine br_by (c := a2 = 23) (fun hc => ?_) (fun hc23 => ?_)
        · have hm := it_t hc hm
          refine lv_tableIn (off := 112) (tgt := 113) hx hb dX7_readHead_1 (by rw [hc]; decide) (by rw [hc]; decide) (by rw [hc]; rfl) (by decide) ?_
          refine lv_aload_n hx hb dX7_readHead_113 rfl (lv_at hl 0 rfl) ?_
          refine g_get C hw gC7_0 dX7_readHead_114 ?_
          refine lv_ldc hx hb hown (C.1.2.2.2.2 _ cstX7_112) dX7_readHead_117 ?_
          refine lv_ldc hx hb hown (C.1.2.2.2.2 _ cstX7_113) dX7_readHead_119 ?_
          obtain ⟨r121, iv121, ar121, la121, pA121, pB121, hc121, hm⟩ := obc_some hm
          refine g_calli (As := [.int (-2147483648), .int 2147483647]) (rest := []) C hw (kX8_take hc121) mtX8_take lkX7_69 oC8 hl.1 rfl rfl (Nat.le_of_ble_eq_true rfl) ⟨Nat.le_of_ble_eq_true rfl, Nat.le_of_ble_eq_true rfl⟩ dX7_readHead_121 ⟨Nat.zero_le _, Nat.zero_le _⟩ (fun H locs hw => ?_)
          refine lv_if_eq (tgt := 131) hx hb dX7_readHead_124 (by decide) (fun hc => ?_) (fun hc => ?_)
          · have hm := it_t hc hm
            refine lv_iconst (v := (-1)) hx hb dX7_readHead_131 ci_m1 ?_
            cases hm
            exact g_iret C hw dX7_readHead_132
          · have hm := it_f hc hm
            refine lv_iconst (v := 0) hx hb dX7_readHead_127 ci_0 ?_
            refine lv_goto (tgt := 132) hx hb dX7_readHead_128 (by decide) ?_
            cases hm
            exact g_iret C hw dX7_readHead_132
        · have hm := it_f hc23 hm
          refine br_by (c := a2 = 24) (fun hc => ?_) (fun hc24 => ?_)
          · have hm := it_t hc hm
            refine lv_tableIn (off := 219) (tgt := 220) hx hb dX7_readHead_1 (by rw [hc]; decide) (by rw [hc]; decide) (by rw [hc]; rfl) (by decide) ?_
            refine lv_iconst (v := 2) hx hb dX7_readHead_220 ci_2 ?_
            cases hm
            exact g_iret C hw dX7_readHead_221
          · have hm := it_f hc24 hm
            refine br_by (c := a2 = 25) (fun hc => ?_) (fun hc25 => ?_)
            · have hm := it_t hc hm
              refine lv_tableIn (off := 219) (tgt := 220) hx hb dX7_readHead_1 (by rw [hc]; decide) (by rw [hc]; decide) (by rw [hc]; rfl) (by decide) ?_
              refine lv_iconst (v := 2) hx hb dX7_readHead_220 ci_2 ?_
              cases hm
              exact g_iret C hw dX7_readHead_221
            · have hm := it_f hc25 hm
              refine br_by (c := a2 = 26) (fun hc => ?_) (fun hc26 => ?_)
              · have hm := it_t hc hm
                refine lv_tableIn (off := 221) (tgt := 222) hx hb dX7_readHead_1 (by rw [hc]; decide) (by rw [hc]; decide) (by rw [hc]; rfl) (by decide) ?_
                refine lv_iconst (v := 0) hx hb dX7_readHead_222 ci_0 ?_
                cases hm
                exact g_iret C hw dX7_readHead_223
              · have hm := it_f hc26 hm
                refine br_by (c := a2 = 27) (fun hc => ?_) (fun hc27 => ?_)
                · have hm := it_t hc hm
                  refine lv_tableIn (off := 221) (tgt := 222) hx hb dX7_readHead_1 (by rw [hc]; decide) (by rw [hc]; decide) (by rw [hc]; rfl) (by decide) ?_
                  refine lv_iconst (v := 0) hx hb dX7_readHead_222 ci_0 ?_
                  cases hm
                  exact g_iret C hw dX7_readHead_223
                · have hm := it_f hc27 hm
                  refine br_by (c := a2 = 28) (fun hc => ?_) (fun hc28 => ?_)
                  · have hm := it_t hc hm
                    refine lv_tableIn (off := 217) (tgt := 218) hx hb dX7_readHead_1 (by rw [hc]; decide) (by rw [hc]; decide) (by rw [hc]; rfl) (by decide) ?_
                    refine lv_iconst (v := 3) hx hb dX7_readHead_218 ci_3 ?_
                    cases hm
                    exact g_iret C hw dX7_readHead_219
                  · have hm := it_f hc28 hm
                    refine br_by (c := a2 = 29) (fun hc => ?_) (fun hc29 => ?_)
                    · have hm := it_t hc hm
                      refine lv_tableIn (off := 132) (tgt := 133) hx hb dX7_readHead_1 (by rw [hc]; decide) (by rw [hc]; decide) (by rw [hc]; rfl) (by decide) ?_
                      refine lv_aload_n hx hb dX7_readHead_133 rfl (lv_at hl 0 rfl) ?_
                      refine g_get C hw gC7_0 dX7_readHead_134 ?_
                      refine lv_iconst (v := 0) hx hb dX7_readHead_137 ci_0 ?_
                      refine lv_bipush (v := 8) hx hb dX7_readHead_138 cb_8 ?_
                      obtain ⟨r140, iv140, ar140, la140, pA140, pB140, hc140, hm⟩ := obc_some hm
                      refine g_calli (As := [.int 0, .int 8]) (rest := []) C hw (kX8_take hc140) mtX8_take lkX7_69 oC8 hl.1 rfl rfl (Nat.le_of_ble_eq_true rfl) ⟨Nat.le_of_ble_eq_true rfl, Nat.le_of_ble_eq_true rfl⟩ dX7_readHead_140 ⟨Nat.zero_le _, Nat.zero_le _⟩ (fun H locs hw => ?_)
                      refine lv_if_eq (tgt := 156) hx hb dX7_readHead_143 (by decide) (fun hc => ?_) (fun hc => ?_)
                      · have hm := it_t hc hm
                        refine lv_iconst (v := (-1)) hx hb dX7_readHead_156 ci_m1 ?_
                        cases hm
                        exact g_iret C hw dX7_readHead_157
                      · have hm := it_f hc hm
                        refine lv_aload_n hx hb dX7_readHead_146 rfl (lv_at hl 0 rfl) ?_
                        refine g_get C hw gC7_0 dX7_readHead_147 ?_
                        obtain ⟨r150, iv150, ar150, la150, pA150, pB150, hc150, hm⟩ := obc_some hm
                        refine g_calli (As := []) (rest := []) C hw (kX8_taken hc150) mtX8_taken lkX7_73 oC8 hl.1 rfl rfl (Nat.le_of_ble_eq_true rfl) ⟨Nat.le_of_ble_eq_true rfl, Nat.le_of_ble_eq_true rfl⟩ dX7_readHead_150 ⟨Nat.zero_le _, Nat.zero_le _⟩ (fun H locs hw => ?_)
                        refine lv_goto (tgt := 157) hx hb dX7_readHead_153 (by decide) ?_
                        cases hm
                        exact g_iret C hw dX7_readHead_157
                    · have hm := it_f hc29 hm
                      refine br_by (c := a2 = 30) (fun hc => ?_) (fun hc30 => ?_)
                      · have hm := it_t hc hm
                        refine lv_tableIn (off := 184) (tgt := 185) hx hb dX7_readHead_1 (by rw [hc]; decide) (by rw [hc]; decide) (by rw [hc]; rfl) (by decide) ?_
                        refine lv_aload_n hx hb dX7_readHead_185 rfl (lv_at hl 0 rfl) ?_
                        refine g_get C hw gC7_0 dX7_readHead_186 ?_
                        refine lv_iconst (v := 0) hx hb dX7_readHead_189 ci_0 ?_
                        refine lv_bipush (v := 7) hx hb dX7_readHead_190 cb_7 ?_
                        obtain ⟨r192, iv192, ar192, la192, pA192, pB192, hc192, hm⟩ := obc_some hm
                        refine g_calli (As := [.int 0, .int 7]) (rest := []) C hw (kX8_take hc192) mtX8_take lkX7_69 oC8 hl.1 rfl rfl (Nat.le_of_ble_eq_true rfl) ⟨Nat.le_of_ble_eq_true rfl, Nat.le_of_ble_eq_true rfl⟩ dX7_readHead_192 ⟨Nat.zero_le _, Nat.zero_le _⟩ (fun H locs hw => ?_)
                        refine lv_if_eq (tgt := 202) hx hb dX7_readHead_195 (by decide) (fun hc => ?_) (fun hc => ?_)
                        · have hm := it_t hc hm
                          refine lv_iconst (v := (-1)) hx hb dX7_readHead_202 ci_m1 ?_
                          cases hm
                          exact g_iret C hw dX7_readHead_203
                        · have hm := it_f hc hm
                          refine lv_iconst (v := 1) hx hb dX7_readHead_198 ci_1 ?_
                          refine lv_goto (tgt := 203) hx hb dX7_readHead_199 (by decide) ?_
                          cases hm
                          exact g_iret C hw dX7_readHead_203
                      · have hm := it_f hc30 hm
                        refine br_by (c := a2 = 31) (fun hc => ?_) (fun hc31 => ?_)
                        · have hm := it_t hc hm
                          refine lv_tableIn (off := 203) (tgt := 204) hx hb dX7_readHead_1 (by rw [hc]; decide) (by rw [hc]; decide) (by rw [hc]; rfl) (by decide) ?_
                          refine lv_aload_n hx hb dX7_readHead_204 rfl (lv_at hl 0 rfl) ?_
                          refine lv_iload_n hx hb dX7_readHead_205 rfl (lv_at hl 1 rfl) ?_
                          obtain ⟨r206, iv206, ar206, la206, pA206, pB206, hc206, hm⟩ := obc_some hm
                          refine g_calli (As := [.int a1]) (rest := []) C hw (kX7_readTag hc206) mtX7_readTag lkX7_114 oC7 hl.1 rfl rfl (Nat.le_of_ble_eq_true rfl) ⟨Nat.le_of_ble_eq_true rfl, Nat.le_of_ble_eq_true rfl⟩ dX7_readHead_206 ⟨Nat.zero_le _, Nat.zero_le _⟩ (fun H locs hw => ?_)
                          refine lv_if_eq (tgt := 216) hx hb dX7_readHead_209 (by decide) (fun hc => ?_) (fun hc => ?_)
                          · have hm := it_t hc hm
                            refine lv_iconst (v := (-1)) hx hb dX7_readHead_216 ci_m1 ?_
                            cases hm
                            exact g_iret C hw dX7_readHead_217
                          · have hm := it_f hc hm
                            refine lv_iconst (v := 1) hx hb dX7_readHead_212 ci_1 ?_
                            refine lv_goto (tgt := 217) hx hb dX7_readHead_213 (by decide) ?_
                            cases hm
                            exact g_iret C hw dX7_readHead_217
                        · have hm := it_f hc31 hm
                          refine br_by (c := a2 = 32) (fun hc => ?_) (fun hc32 => ?_)
                          · have hm := it_t hc hm
                            refine lv_tableIn (off := 157) (tgt := 158) hx hb dX7_readHead_1 (by rw [hc]; decide) (by rw [hc]; decide) (by rw [hc]; rfl) (by decide) ?_
                            refine lv_aload_n hx hb dX7_readHead_158 rfl (lv_at hl 0 rfl) ?_
                            refine g_get C hw gC7_0 dX7_readHead_159 ?_
                            refine lv_iconst (v := 0) hx hb dX7_readHead_162 ci_0 ?_
                            refine lv_bipush (v := 8) hx hb dX7_readHead_163 cb_8 ?_
                            obtain ⟨r165, iv165, ar165, la165, pA165, pB165, hc165, hm⟩ := obc_some hm
                            refine g_calli (As := [.int 0, .int 8]) (rest := []) C hw (kX8_take hc165) mtX8_take lkX7_69 oC8 hl.1 rfl rfl (Nat.le_of_ble_eq_true rfl) ⟨Nat.le_of_ble_eq_true rfl, Nat.le_of_ble_eq_true rfl⟩ dX7_readHead_165 ⟨Nat.zero_le _, Nat.zero_le _⟩ (fun H locs hw => ?_)
                            refine lv_if_eq (tgt := 183) hx hb dX7_readHead_168 (by decide) (fun hc => ?_) (fun hc => ?_)
                            · have hm := it_t hc hm
                              refine lv_iconst (v := (-1)) hx hb dX7_readHead_183 ci_m1 ?_
                              cases hm
                              exact g_iret C hw dX7_readHead_184
                            · have hm := it_f hc hm
                              refine lv_aload_n hx hb dX7_readHead_171 rfl (lv_at hl 0 rfl) ?_
                              refine g_get C hw gC7_0 dX7_readHead_172 ?_
                              obtain ⟨r175, iv175, ar175, la175, pA175, pB175, hc175, hm⟩ := obc_some hm
                              refine g_calli (As := []) (rest := []) C hw (kX8_taken hc175) mtX8_taken lkX7_73 oC8 hl.1 rfl rfl (Nat.le_of_ble_eq_true rfl) ⟨Nat.le_of_ble_eq_true rfl, Nat.le_of_ble_eq_true rfl⟩ dX7_readHead_175 ⟨Nat.zero_le _, Nat.zero_le _⟩ (fun H locs hw => ?_)
                              refine lv_iconst (v := 1) hx hb dX7_readHead_178 ci_1 ?_
                              refine lv_iadd hx hb dX7_readHead_179 ?_
                              refine lv_goto (tgt := 184) hx hb dX7_readHead_180 (by decide) ?_
                              cases hm
                              exact g_iret C hw dX7_readHead_184
                          · have hm := it_f hc32 hm
                            refine br_by (c := a2 = 33) (fun hc => ?_) (fun hc33 => ?_)
                            · have hm := it_t hc hm
                              refine lv_tableIn (off := 86) (tgt := 87) hx hb dX7_readHead_1 (by rw [hc]; decide) (by rw [hc]; decide) (by rw [hc]; rfl) (by decide) ?_
                              refine lv_aload_n hx hb dX7_readHead_87 rfl (lv_at hl 0 rfl) ?_
                              refine g_get C hw gC7_0 dX7_readHead_88 ?_
                              refine lv_iconst (v := 0) hx hb dX7_readHead_91 ci_0 ?_
                              refine lv_aload_n hx hb dX7_readHead_92 rfl (lv_at hl 0 rfl) ?_
                              refine g_get C hw gC7_1 dX7_readHead_93 ?_
                              obtain ⟨r96, iv96, ar96, la96, pA96, pB96, hc96, hm⟩ := obc_some hm
                              refine g_calli (As := []) (rest := [.int 0, .ref (oc 8)]) C hw (kX3_size hc96) mtX3_size lkX7_107 oC3 hl.1 rfl rfl (Nat.le_of_ble_eq_true rfl) ⟨Nat.le_of_ble_eq_true rfl, Nat.le_of_ble_eq_true rfl⟩ dX7_readHead_96 ⟨Nat.zero_le _, Nat.zero_le _⟩ (fun H locs hw => ?_)
                              refine lv_iconst (v := 1) hx hb dX7_readHead_99 ci_1 ?_
                              refine lv_isub hx hb dX7_readHead_100 ?_
                              obtain ⟨r101, iv101, ar101, la101, pA101, pB101, hc101, hm⟩ := obc_some hm
                              refine g_calli (As := [.int 0, .int (r96 - 1)]) (rest := []) C hw (kX8_take hc101) mtX8_take lkX7_69 oC8 hl.1 rfl rfl (Nat.le_of_ble_eq_true rfl) ⟨Nat.le_of_ble_eq_true rfl, Nat.le_of_ble_eq_true rfl⟩ dX7_readHead_101 ⟨Nat.zero_le _, Nat.zero_le _⟩ (fun H locs hw => ?_)
                              refine lv_if_eq (tgt := 111) hx hb dX7_readHead_104 (by decide) (fun hc => ?_) (fun hc => ?_)
                              · have hm := it_t hc hm
                                refine lv_iconst (v := (-1)) hx hb dX7_readHead_111 ci_m1 ?_
                                cases hm
                                exact g_iret C hw dX7_readHead_112
                              · have hm := it_f hc hm
                                refine lv_iconst (v := 1) hx hb dX7_readHead_107 ci_1 ?_
                                refine lv_goto (tgt := 112) hx hb dX7_readHead_108 (by decide) ?_
                                cases hm
                                exact g_iret C hw dX7_readHead_112
                            · have hm := it_f hc33 hm
                              have ho : (a2).toInt < 20 ∨ 33 < (a2).toInt := by
                                have ehc20 := sw_ne (n := 20) hc20 (by decide)
                                have ehc21 := sw_ne (n := 21) hc21 (by decide)
                                have ehc22 := sw_ne (n := 22) hc22 (by decide)
                                have ehc23 := sw_ne (n := 23) hc23 (by decide)
                                have ehc24 := sw_ne (n := 24) hc24 (by decide)
                                have ehc25 := sw_ne (n := 25) hc25 (by decide)
                                have ehc26 := sw_ne (n := 26) hc26 (by decide)
                                have ehc27 := sw_ne (n := 27) hc27 (by decide)
                                have ehc28 := sw_ne (n := 28) hc28 (by decide)
                                have ehc29 := sw_ne (n := 29) hc29 (by decide)
                                have ehc30 := sw_ne (n := 30) hc30 (by decide)
                                have ehc31 := sw_ne (n := 31) hc31 (by decide)
                                have ehc32 := sw_ne (n := 32) hc32 (by decide)
                                have ehc33 := sw_ne (n := 33) hc33 (by decide)
                                omega
                              refine lv_tableOut (tgt := 222) hx hb dX7_readHead_1 ho (by decide) ?_
                              refine lv_iconst (v := 0) hx hb dX7_readHead_222 ci_0 ?_
                              cases hm
                              exact g_iret C hw dX7_readHead_223
def mX7_push (a1 : Int32) (a2 : Int32) (a3 : Int32) (iv : mI) (ar : mA) (la : mL) (pA : mA) (pB : mA) : Option (Int32 × mI × mA × mL × mA × mA) := if 200 ≤ (iv 707) then some (0, iv, ar, la, pA, pB) else if (iv 707) < 0 ∨ 200 ≤ (iv 707).toNatClampNeg then none else if (iv 707) < 0 ∨ 200 ≤ (iv 707).toNatClampNeg then none else if (iv 707) < 0 ∨ 200 ≤ (iv 707).toNatClampNeg then none else if (iv 707) < 0 ∨ 200 ≤ (iv 707).toNatClampNeg then none else some (0, va_up iv 707 ((iv 707) + 1), au (au (au (au ar 703 (iv 707).toNatClampNeg a1) 704 (iv 707).toNatClampNeg a2) 705 (iv 707).toNatClampNeg (-1)) 706 (iv 707).toNatClampNeg a3, la, pA, pB)
set_option maxRecDepth 100000 in
set_option maxHeartbeats 4000000 in
theorem kX7_push {a1 a2 a3 : Int32} {iv ivz : mI} {ar arz : mA} {la laz : mL} {pA pAz : mA} {pB pBz : mA} {rz : Int32} (hm : mX7_push a1 a2 a3 iv ar la pA pB = some (rz, ivz, arz, laz, pAz, pBz)) : CtV l D cI cJ yX7_push cX7_push 4 0 0 [.ref (oc 7), .int a1, .int a2, .int a3] (wC cI cJ oc ac pa pb aa ab xp xs pb cp mp iv ar la pA pB) (wC cI cJ oc ac pa pb aa ab xp xs pb cp mp ivz arz laz pAz pBz) := by
  intro sz
  refine ct_of (by decide) (Nat.le_of_ble_eq_true rfl) ?_
  intro p e s m args below meth c C hw ls hl
  have hl : lv_has ls 4 [(0, .ref (oc 7)), (1, .int a1), (2, .int a2), (3, .int a3)] := hl
  have hx := C.1.1
  have hb := C.1.2.1
  unfold mX7_push at hm
  refine lv_aload_n hx hb dX7_push_0 rfl (lv_at hl 0 rfl) ?_
  refine g_get C hw gC7_7 dX7_push_1 ?_
  refine lv_sipush (v := 200) hx hb dX7_push_4 cs_200 ?_
  refine lv_icmp_ge (tgt := 60) hx hb dX7_push_7 (by decide) (fun hc => ?_) (fun hc => ?_)
  · have hm := it_t hc hm
    cases hm
    exact g_vret C hw dX7_push_60
  · have hm := it_f hc hm
    refine lv_aload_n hx hb dX7_push_10 rfl (lv_at hl 0 rfl) ?_
    refine g_get C hw gC7_3 dX7_push_11 ?_
    refine lv_aload_n hx hb dX7_push_14 rfl (lv_at hl 0 rfl) ?_
    refine g_get C hw gC7_7 dX7_push_15 ?_
    refine lv_iload_n hx hb dX7_push_18 rfl (lv_at hl 1 rfl) ?_
    obtain ⟨hi, hm⟩ := it_a hm
    refine g_ast C hw sC7_3 hi dX7_push_19 (fun H locs hw => ?_)
    refine lv_aload_n hx hb dX7_push_20 rfl (lv_at hl 0 rfl) ?_
    refine g_get C hw gC7_4 dX7_push_21 ?_
    refine lv_aload_n hx hb dX7_push_24 rfl (lv_at hl 0 rfl) ?_
    refine g_get C hw gC7_7 dX7_push_25 ?_
    refine lv_iload_n hx hb dX7_push_28 rfl (lv_at hl 2 rfl) ?_
    obtain ⟨hi, hm⟩ := it_a hm
    refine g_ast C hw sC7_4 hi dX7_push_29 (fun H locs hw => ?_)
    refine lv_aload_n hx hb dX7_push_30 rfl (lv_at hl 0 rfl) ?_
    refine g_get C hw gC7_5 dX7_push_31 ?_
    refine lv_aload_n hx hb dX7_push_34 rfl (lv_at hl 0 rfl) ?_
    refine g_get C hw gC7_7 dX7_push_35 ?_
    refine lv_iconst (v := (-1)) hx hb dX7_push_38 ci_m1 ?_
    obtain ⟨hi, hm⟩ := it_a hm
    refine g_ast C hw sC7_5 hi dX7_push_39 (fun H locs hw => ?_)
    refine lv_aload_n hx hb dX7_push_40 rfl (lv_at hl 0 rfl) ?_
    refine g_get C hw gC7_6 dX7_push_41 ?_
    refine lv_aload_n hx hb dX7_push_44 rfl (lv_at hl 0 rfl) ?_
    refine g_get C hw gC7_7 dX7_push_45 ?_
    refine lv_iload_n hx hb dX7_push_48 rfl (lv_at hl 3 rfl) ?_
    obtain ⟨hi, hm⟩ := it_a hm
    refine g_ast C hw sC7_6 hi dX7_push_49 (fun H locs hw => ?_)
    refine lv_aload_n hx hb dX7_push_50 rfl (lv_at hl 0 rfl) ?_
    refine lv_dup hx hb dX7_push_51 rfl ?_
    refine g_get C hw gC7_7 dX7_push_52 ?_
    refine lv_iconst (v := 1) hx hb dX7_push_55 ci_1 ?_
    refine lv_iadd hx hb dX7_push_56 ?_
    refine g_put C hw pC7_7 dX7_push_57 (fun H locs hw => ?_)
    cases hm
    exact g_vret C hw dX7_push_60
def mX7_settle_L7 : Nat → Int32 → mI → mA → mL → mA → mA → Option (Int32 × mI × mA × mL × mA × mA)
  | 0, _, _, _, _, _, _ => none
  | n + 1, l1, iv, ar, la, pA, pB => if l1 < 0 then some (0, iv, ar, la, pA, pB) else if l1 < 0 ∨ 200 ≤ l1.toNatClampNeg then none else if l1 < 0 ∨ 200 ≤ l1.toNatClampNeg then none else if l1 < 0 ∨ 200 ≤ l1.toNatClampNeg then none else if ((au ar 704 l1.toNatClampNeg ((ar 704 l1.toNatClampNeg) - 1)) 704 l1.toNatClampNeg) ≤ 0 then mX7_settle_L7 n (l1 + (-1)) (va_up iv 707 l1) (au ar 704 l1.toNatClampNeg ((ar 704 l1.toNatClampNeg) - 1)) la pA pB else some (0, iv, au ar 704 l1.toNatClampNeg ((ar 704 l1.toNatClampNeg) - 1), la, pA, pB)
set_option maxRecDepth 100000 in
set_option maxHeartbeats 4000000 in
theorem wX7_settle_L7 (C : mCx p s m args meth c RX7 cX7_settle 2 none D cI cJ A) (n : Nat) : ∀ (l1 : Int32) (iv : mI) (ar : mA) (la : mL) (pA : mA) (pB : mA) (rz : Int32) (ivz : mI) (arz : mA) (laz : mL) (pAz : mA) (pBz : mA), mX7_settle_L7 n l1 iv ar la pA pB = some (rz, ivz, arz, laz, pAz, pBz) → ∀ (H : Heap) (locs : List Loc) (ls : Array Slot), lv_has ls 2 [(0, .ref (oc 7)), (1, .int l1)] → inW D A s (wC cI cJ oc ac pa pb aa ab xp xs pb cp mp iv ar la pA pB) H locs → W p l e (rmO 0 0) s m args below meth c H locs 0 0 (MQ below (ctQv D cI cJ (wC cI cJ oc ac pa pb aa ab xp xs pb cp mp ivz arz laz pAz pBz) A) args s 0 0 A) (F0 m 7 ls []) := by
  induction n with
  | zero =>
    intro l1 iv ar la pA pB rz ivz arz laz pAz pBz hm H locs ls hl hw
    have hm : (none : Option (Int32 × mI × mA × mL × mA × mA)) = some _ := hm
    cases hm
  | succ n ih =>
    intro l1 iv ar la pA pB rz ivz arz laz pAz pBz hm H locs ls hl hw
    have hx := C.1.1
    have hb := C.1.2.1
    unfold mX7_settle_L7 at hm
    refine lv_iload_n hx hb dX7_settle_7 rfl (lv_at hl 1 rfl) ?_
    refine lv_if_lt (tgt := 42) hx hb dX7_settle_8 (by decide) (fun hc => ?_) (fun hc => ?_)
    · have hm := it_t hc hm
      cases hm
      exact g_vret C hw dX7_settle_42
    · have hm := it_f hc hm
      refine lv_aload_n hx hb dX7_settle_11 rfl (lv_at hl 0 rfl) ?_
      refine g_get C hw gC7_4 dX7_settle_12 ?_
      refine lv_iload_n hx hb dX7_settle_15 rfl (lv_at hl 1 rfl) ?_
      refine lv_dup2_11 hx hb dX7_settle_16 rfl rfl ?_
      obtain ⟨hi, hm⟩ := it_a hm
      refine g_ald C hw aC7_4 hi dX7_settle_17 ?_
      refine lv_iconst (v := 1) hx hb dX7_settle_18 ci_1 ?_
      refine lv_isub hx hb dX7_settle_19 ?_
      obtain ⟨hi, hm⟩ := it_a hm
      refine g_ast C hw sC7_4 hi dX7_settle_20 (fun H locs hw => ?_)
      refine lv_aload_n hx hb dX7_settle_21 rfl (lv_at hl 0 rfl) ?_
      refine g_get C hw gC7_4 dX7_settle_22 ?_
      refine lv_iload_n hx hb dX7_settle_25 rfl (lv_at hl 1 rfl) ?_
      obtain ⟨hi, hm⟩ := it_a hm
      refine g_ald C hw aC7_4 hi dX7_settle_26 ?_
      refine lv_if_le (tgt := 31) hx hb dX7_settle_27 (by decide) (fun hc => ?_) (fun hc => ?_)
      · have hm := it_t hc hm
        refine lv_aload_n hx hb dX7_settle_31 rfl (lv_at hl 0 rfl) ?_
        refine lv_iload_n hx hb dX7_settle_32 rfl (lv_at hl 1 rfl) ?_
        refine g_put C hw pC7_7 dX7_settle_33 (fun H locs hw => ?_)
        refine lv_iinc (v := (l1 + (-1))) (lv' := [(1, .int (l1 + (-1))), (0, .ref (oc 7))]) hx hb dX7_settle_36 hl (k := 1) rfl (ii_ ci_m1) (by decide) rfl (fun ls hl => ?_)
        refine lv_goto (tgt := 7) hx hb dX7_settle_39 (by decide) ?_
        exact ih _ _ _ _ _ _ _ _ _ _ _ _ hm _ _ _ (lv_sub hl [1, 0] rfl) hw
      · have hm := it_f hc hm
        cases hm
        exact g_vret C hw dX7_settle_30
def mX7_settle  (iv : mI) (ar : mA) (la : mL) (pA : mA) (pB : mA) : Option (Int32 × mI × mA × mL × mA × mA) := mX7_settle_L7 bigF ((iv 707) - 1) iv ar la pA pB
set_option maxRecDepth 100000 in
set_option maxHeartbeats 4000000 in
theorem kX7_settle {iv ivz : mI} {ar arz : mA} {la laz : mL} {pA pAz : mA} {pB pBz : mA} {rz : Int32} (hm : mX7_settle iv ar la pA pB = some (rz, ivz, arz, laz, pAz, pBz)) : CtV l D cI cJ yX7_settle cX7_settle 2 0 0 [.ref (oc 7)] (wC cI cJ oc ac pa pb aa ab xp xs pb cp mp iv ar la pA pB) (wC cI cJ oc ac pa pb aa ab xp xs pb cp mp ivz arz laz pAz pBz) := by
  intro sz
  refine ct_of (by decide) (Nat.le_of_ble_eq_true rfl) ?_
  intro p e s m args below meth c C hw ls hl
  have hl : lv_has ls 2 [(0, .ref (oc 7))] := hl
  have hx := C.1.1
  have hb := C.1.2.1
  unfold mX7_settle at hm
  refine lv_aload_n hx hb dX7_settle_0 rfl (lv_at hl 0 rfl) ?_
  refine g_get C hw gC7_7 dX7_settle_1 ?_
  refine lv_iconst (v := 1) hx hb dX7_settle_4 ci_1 ?_
  refine lv_isub hx hb dX7_settle_5 ?_
  refine lv_istore_n (lv' := [(1, .int ((iv 707) - 1)), (0, .ref (oc 7))]) hx hb dX7_settle_6 rfl hl (by decide) rfl (fun ls hl => ?_)
  exact wX7_settle_L7 C bigF _ _ _ _ _ _ _ _ _ _ _ _ hm _ _ _ (lv_sub hl [1, 0] rfl) hw
def mX7_readTerm_J49 (l1 : Int32) (s0 : Int32) (s1 : Int32) (iv : mI) (ar : mA) (la : mL) (pA : mA) (pB : mA) : Option (Int32 × mI × mA × mL × mA × mA) := obc (mX8_take s1 s0 iv ar la pA pB) (fun r49 iv49 ar49 la49 pA49 pB49 => if r49 = 0 then some (0, iv49, ar49, la49, pA49, pB49) else obc (mX7_enter l1 iv49 ar49 la49 pA49 pB49) (fun r59 iv59 ar59 la59 pA59 pB59 => obc (mX8_taken iv59 ar59 la59 pA59 pB59) (fun r69 iv69 ar69 la69 pA69 pB69 => obc (mX7_readHead l1 r69 r59 iv69 ar69 la69 pA69 pB69) (fun r73 iv73 ar73 la73 pA73 pB73 => if r73 = (-1) then some (0, iv73, ar73, la73, pA73, pB73) else if r73 ≤ 0 then obc (mX7_settle iv73 ar73 la73 pA73 pB73) (fun r103 iv103 ar103 la103 pA103 pB103 => some (1, iv103, ar103, la103, pA103, pB103)) else obc (mX7_push l1 r73 r59 iv73 ar73 la73 pA73 pB73) (fun r96 iv96 ar96 la96 pA96 pB96 => some (1, iv96, ar96, la96, pA96, pB96))))))
set_option maxRecDepth 100000 in
set_option maxHeartbeats 4000000 in
theorem wX7_readTerm_J49 (C : mCx p s m args meth c RX7 cX7_readTerm 5 (some .boolean) D cI cJ A) : ∀ (l1 : Int32) (s0 : Int32) (s1 : Int32) (iv : mI) (ar : mA) (la : mL) (pA : mA) (pB : mA) (rz : Int32) (ivz : mI) (arz : mA) (laz : mL) (pAz : mA) (pBz : mA), mX7_readTerm_J49 l1 s0 s1 iv ar la pA pB = some (rz, ivz, arz, laz, pAz, pBz) → ∀ (H : Heap) (locs : List Loc) (ls : Array Slot), lv_has ls 5 [(0, .ref (oc 7)), (1, .int l1)] → inW D A s (wC cI cJ oc ac pa pb aa ab xp xs pb cp mp iv ar la pA pB) H locs → W p l e (rmO 4 92) s m args below meth c H locs 0 0 (MQ below (ctQ D cI cJ (wC cI cJ oc ac pa pb aa ab xp xs pb cp mp ivz arz laz pAz pBz) A rz) args s 0 0 A) (F0 m 49 ls [.int s0, .int s1, .ref (oc 8)]) := by
  intro l1 s0 s1 iv ar la pA pB rz ivz arz laz pAz pBz hm H locs ls hl hw
  have hx := C.1.1
  have hb := C.1.2.1
  unfold mX7_readTerm_J49 at hm
  obtain ⟨r49, iv49, ar49, la49, pA49, pB49, hc49, hm⟩ := obc_some hm
  refine g_calli (As := [.int s1, .int s0]) (rest := []) C hw (kX8_take hc49) mtX8_take lkX7_69 oC8 hl.1 rfl rfl (Nat.le_of_ble_eq_true rfl) ⟨Nat.le_of_ble_eq_true rfl, Nat.le_of_ble_eq_true rfl⟩ dX7_readTerm_49 ⟨Nat.zero_le _, Nat.zero_le _⟩ (fun H locs hw => ?_)
  refine lv_if_ne (tgt := 57) hx hb dX7_readTerm_52 (by decide) (fun hc => ?_) (fun hc => ?_)
  · have hm := it_f hc hm
    refine lv_aload_n hx hb dX7_readTerm_57 rfl (lv_at hl 0 rfl) ?_
    refine lv_iload_n hx hb dX7_readTerm_58 rfl (lv_at hl 1 rfl) ?_
    obtain ⟨r59, iv59, ar59, la59, pA59, pB59, hc59, hm⟩ := obc_some hm
    refine g_calli (As := [.int l1]) (rest := []) C hw (kX7_enter hc59) mtX7_enter lkX7_79 oC7 hl.1 rfl rfl (Nat.le_of_ble_eq_true rfl) ⟨Nat.le_of_ble_eq_true rfl, Nat.le_of_ble_eq_true rfl⟩ dX7_readTerm_59 ⟨Nat.zero_le _, Nat.zero_le _⟩ (fun H locs hw => ?_)
    refine lv_istore_n (lv' := [(3, .int r59), (0, .ref (oc 7)), (1, .int l1)]) hx hb dX7_readTerm_62 rfl hl (by decide) rfl (fun ls hl => ?_)
    refine lv_aload_n hx hb dX7_readTerm_63 rfl (lv_at hl 1 rfl) ?_
    refine lv_iload_n hx hb dX7_readTerm_64 rfl (lv_at hl 2 rfl) ?_
    refine lv_aload_n hx hb dX7_readTerm_65 rfl (lv_at hl 1 rfl) ?_
    refine g_get C hw gC7_0 dX7_readTerm_66 ?_
    obtain ⟨r69, iv69, ar69, la69, pA69, pB69, hc69, hm⟩ := obc_some hm
    refine g_calli (As := []) (rest := [.int l1, .ref (oc 7)]) C hw (kX8_taken hc69) mtX8_taken lkX7_73 oC8 hl.1 rfl rfl (Nat.le_of_ble_eq_true rfl) ⟨Nat.le_of_ble_eq_true rfl, Nat.le_of_ble_eq_true rfl⟩ dX7_readTerm_69 ⟨Nat.zero_le _, Nat.zero_le _⟩ (fun H locs hw => ?_)
    refine lv_iload_n hx hb dX7_readTerm_72 rfl (lv_at hl 0 rfl) ?_
    obtain ⟨r73, iv73, ar73, la73, pA73, pB73, hc73, hm⟩ := obc_some hm
    refine g_calli (As := [.int l1, .int r69, .int r59]) (rest := []) C hw (kX7_readHead hc73) mtX7_readHead lkX7_82 oC7 hl.1 rfl rfl (Nat.le_of_ble_eq_true rfl) ⟨Nat.le_of_ble_eq_true rfl, Nat.le_of_ble_eq_true rfl⟩ dX7_readTerm_73 ⟨Nat.zero_le _, Nat.zero_le _⟩ (fun H locs hw => ?_)
    refine lv_istore (lv' := [(4, .int r73), (3, .int r59), (0, .ref (oc 7)), (1, .int l1)]) hx hb dX7_readTerm_76 hl (by decide) rfl (fun ls hl => ?_)
    refine lv_iload hx hb dX7_readTerm_78 (lv_at hl 0 rfl) ?_
    refine lv_iconst (v := (-1)) hx hb dX7_readTerm_80 ci_m1 ?_
    refine lv_icmp_ne (tgt := 86) hx hb dX7_readTerm_81 (by decide) (fun hc => ?_) (fun hc => ?_)
    · have hm := it_f hc hm
      refine lv_iload hx hb dX7_readTerm_86 (lv_at hl 0 rfl) ?_
      refine lv_if_le (tgt := 102) hx hb dX7_readTerm_88 (by decide) (fun hc => ?_) (fun hc => ?_)
      · have hm := it_t hc hm
        refine lv_aload_n hx hb dX7_readTerm_102 rfl (lv_at hl 2 rfl) ?_
        obtain ⟨r103, iv103, ar103, la103, pA103, pB103, hc103, hm⟩ := obc_some hm
        refine g_callv (As := []) (rest := []) C hw (kX7_settle hc103) mtX7_settle lkX7_90 oC7 hl.1 rfl rfl (Nat.le_of_ble_eq_true rfl) ⟨Nat.le_of_ble_eq_true rfl, Nat.le_of_ble_eq_true rfl⟩ dX7_readTerm_103 ⟨Nat.zero_le _, Nat.zero_le _⟩ (fun H locs hw => ?_)
        refine lv_iconst (v := 1) hx hb dX7_readTerm_106 ci_1 ?_
        cases hm
        exact g_zret C hw (Or.inr rfl) dX7_readTerm_107
      · have hm := it_f hc hm
        refine lv_aload_n hx hb dX7_readTerm_91 rfl (lv_at hl 2 rfl) ?_
        refine lv_iload_n hx hb dX7_readTerm_92 rfl (lv_at hl 3 rfl) ?_
        refine lv_iload hx hb dX7_readTerm_93 (lv_at hl 0 rfl) ?_
        refine lv_iload_n hx hb dX7_readTerm_95 rfl (lv_at hl 1 rfl) ?_
        obtain ⟨r96, iv96, ar96, la96, pA96, pB96, hc96, hm⟩ := obc_some hm
        refine g_callv (As := [.int l1, .int r73, .int r59]) (rest := []) C hw (kX7_push hc96) mtX7_push lkX7_86 oC7 hl.1 rfl rfl (Nat.le_of_ble_eq_true rfl) ⟨Nat.le_of_ble_eq_true rfl, Nat.le_of_ble_eq_true rfl⟩ dX7_readTerm_96 ⟨Nat.zero_le _, Nat.zero_le _⟩ (fun H locs hw => ?_)
        refine lv_goto (tgt := 106) hx hb dX7_readTerm_99 (by decide) ?_
        refine lv_iconst (v := 1) hx hb dX7_readTerm_106 ci_1 ?_
        cases hm
        exact g_zret C hw (Or.inr rfl) dX7_readTerm_107
    · have hm := it_t hc hm
      refine lv_iconst (v := 0) hx hb dX7_readTerm_84 ci_0 ?_
      cases hm
      exact g_zret C hw (Or.inl rfl) dX7_readTerm_85
  · have hm := it_t hc hm
    refine lv_iconst (v := 0) hx hb dX7_readTerm_55 ci_0 ?_
    cases hm
    exact g_zret C hw (Or.inl rfl) dX7_readTerm_56
def mX7_readTerm_J22 (l1 : Int32) (s0 : Int32) (iv : mI) (ar : mA) (la : mL) (pA : mA) (pB : mA) : Option (Int32 × mI × mA × mL × mA × mA) := if s0 = 0 then if s0 = 0 then mX7_readTerm_J49 l1 33 20 iv ar la pA pB else mX7_readTerm_J49 l1 21 20 iv ar la pA pB else if s0 = 0 then mX7_readTerm_J49 l1 33 21 iv ar la pA pB else mX7_readTerm_J49 l1 21 21 iv ar la pA pB
set_option maxRecDepth 100000 in
set_option maxHeartbeats 4000000 in
theorem wX7_readTerm_J22 (C : mCx p s m args meth c RX7 cX7_readTerm 5 (some .boolean) D cI cJ A) : ∀ (l1 : Int32) (s0 : Int32) (iv : mI) (ar : mA) (la : mL) (pA : mA) (pB : mA) (rz : Int32) (ivz : mI) (arz : mA) (laz : mL) (pAz : mA) (pBz : mA), mX7_readTerm_J22 l1 s0 iv ar la pA pB = some (rz, ivz, arz, laz, pAz, pBz) → ∀ (H : Heap) (locs : List Loc) (ls : Array Slot), lv_has ls 5 [(0, .ref (oc 7)), (1, .int l1)] → inW D A s (wC cI cJ oc ac pa pb aa ab xp xs pb cp mp iv ar la pA pB) H locs → W p l e (rmO 4 92) s m args below meth c H locs 0 0 (MQ below (ctQ D cI cJ (wC cI cJ oc ac pa pb aa ab xp xs pb cp mp ivz arz laz pAz pBz) A rz) args s 0 0 A) (F0 m 22 ls [.int s0]) := by
  intro l1 s0 iv ar la pA pB rz ivz arz laz pAz pBz hm H locs ls hl hw
  have hx := C.1.1
  have hb := C.1.2.1
  unfold mX7_readTerm_J22 at hm
  refine lv_istore_n (lv' := [(2, .int s0), (0, .ref (oc 7)), (1, .int l1)]) hx hb dX7_readTerm_22 rfl hl (by decide) rfl (fun ls hl => ?_)
  refine lv_aload_n hx hb dX7_readTerm_23 rfl (lv_at hl 1 rfl) ?_
  refine g_get C hw gC7_0 dX7_readTerm_24 ?_
  refine lv_iload_n hx hb dX7_readTerm_27 rfl (lv_at hl 0 rfl) ?_
  refine lv_if_eq (tgt := 36) hx hb dX7_readTerm_28 (by decide) (fun hc => ?_) (fun hc => ?_)
  · have hm := it_t hc hm
    refine lv_bipush (v := 20) hx hb dX7_readTerm_36 cb_20 ?_
    refine lv_iload_n hx hb dX7_readTerm_38 rfl (lv_at hl 0 rfl) ?_
    refine lv_if_eq (tgt := 47) hx hb dX7_readTerm_39 (by decide) (fun hc => ?_) (fun hc => ?_)
    · have hm := it_t hc hm
      refine lv_bipush (v := 33) hx hb dX7_readTerm_47 cb_33 ?_
      exact wX7_readTerm_J49 C _ _ _ _ _ _ _ _ _ _ _ _ _ _ hm _ _ _ (lv_sub hl [1, 2] rfl) hw
    · have hm := it_f hc hm
      refine lv_bipush (v := 21) hx hb dX7_readTerm_42 cb_21 ?_
      refine lv_goto (tgt := 49) hx hb dX7_readTerm_44 (by decide) ?_
      exact wX7_readTerm_J49 C _ _ _ _ _ _ _ _ _ _ _ _ _ _ hm _ _ _ (lv_sub hl [1, 2] rfl) hw
  · have hm := it_f hc hm
    refine lv_bipush (v := 21) hx hb dX7_readTerm_31 cb_21 ?_
    refine lv_goto (tgt := 38) hx hb dX7_readTerm_33 (by decide) ?_
    refine lv_iload_n hx hb dX7_readTerm_38 rfl (lv_at hl 0 rfl) ?_
    refine lv_if_eq (tgt := 47) hx hb dX7_readTerm_39 (by decide) (fun hc => ?_) (fun hc => ?_)
    · have hm := it_t hc hm
      refine lv_bipush (v := 33) hx hb dX7_readTerm_47 cb_33 ?_
      exact wX7_readTerm_J49 C _ _ _ _ _ _ _ _ _ _ _ _ _ _ hm _ _ _ (lv_sub hl [1, 2] rfl) hw
    · have hm := it_f hc hm
      refine lv_bipush (v := 21) hx hb dX7_readTerm_42 cb_21 ?_
      refine lv_goto (tgt := 49) hx hb dX7_readTerm_44 (by decide) ?_
      exact wX7_readTerm_J49 C _ _ _ _ _ _ _ _ _ _ _ _ _ _ hm _ _ _ (lv_sub hl [1, 2] rfl) hw
def mX7_readTerm  (iv : mI) (ar : mA) (la : mL) (pA : mA) (pB : mA) : Option (Int32 × mI × mA × mL × mA × mA) := obc (mX8_at iv ar la pA pB) (fun r4 iv4 ar4 la4 pA4 pB4 => obc (mX7_wordAround iv4 ar4 la4 pA4 pB4) (fun r9 iv9 ar9 la9 pA9 pB9 => if r9 = 33 then mX7_readTerm_J22 r4 1 iv9 ar9 la9 pA9 pB9 else mX7_readTerm_J22 r4 0 iv9 ar9 la9 pA9 pB9))
set_option maxRecDepth 100000 in
set_option maxHeartbeats 4000000 in
theorem kX7_readTerm {iv ivz : mI} {ar arz : mA} {la laz : mL} {pA pAz : mA} {pB pBz : mA} {rz : Int32} (hm : mX7_readTerm iv ar la pA pB = some (rz, ivz, arz, laz, pAz, pBz)) : Ct l D cI cJ yX7_readTerm cX7_readTerm 5 (some .boolean) 4 92 [.ref (oc 7)] (wC cI cJ oc ac pa pb aa ab xp xs pb cp mp iv ar la pA pB) (wC cI cJ oc ac pa pb aa ab xp xs pb cp mp ivz arz laz pAz pBz) rz := by
  intro sz
  refine ct_of (by decide) (Nat.le_of_ble_eq_true rfl) ?_
  intro p e s m args below meth c C hw ls hl
  have hl : lv_has ls 5 [(0, .ref (oc 7))] := hl
  have hx := C.1.1
  have hb := C.1.2.1
  unfold mX7_readTerm at hm
  refine lv_aload_n hx hb dX7_readTerm_0 rfl (lv_at hl 0 rfl) ?_
  refine g_get C hw gC7_0 dX7_readTerm_1 ?_
  obtain ⟨r4, iv4, ar4, la4, pA4, pB4, hc4, hm⟩ := obc_some hm
  refine g_calli (As := []) (rest := []) C hw (kX8_at hc4) mtX8_at lkX7_76 oC8 hl.1 rfl rfl (Nat.le_of_ble_eq_true rfl) ⟨Nat.le_of_ble_eq_true rfl, Nat.le_of_ble_eq_true rfl⟩ dX7_readTerm_4 ⟨Nat.zero_le _, Nat.zero_le _⟩ (fun H locs hw => ?_)
  refine lv_istore_n (lv' := [(1, .int r4), (0, .ref (oc 7))]) hx hb dX7_readTerm_7 rfl hl (by decide) rfl (fun ls hl => ?_)
  refine lv_aload_n hx hb dX7_readTerm_8 rfl (lv_at hl 1 rfl) ?_
  obtain ⟨r9, iv9, ar9, la9, pA9, pB9, hc9, hm⟩ := obc_some hm
  refine g_calli (As := []) (rest := []) C hw (kX7_wordAround hc9) mtX7_wordAround lkX7_62 oC7 hl.1 rfl rfl (Nat.le_of_ble_eq_true rfl) ⟨Nat.le_of_ble_eq_true rfl, Nat.le_of_ble_eq_true rfl⟩ dX7_readTerm_9 ⟨Nat.zero_le _, Nat.zero_le _⟩ (fun H locs hw => ?_)
  refine lv_bipush (v := 33) hx hb dX7_readTerm_12 cb_33 ?_
  refine lv_icmp_ne (tgt := 21) hx hb dX7_readTerm_14 (by decide) (fun hc => ?_) (fun hc => ?_)
  · have hm := it_f hc hm
    refine lv_iconst (v := 0) hx hb dX7_readTerm_21 ci_0 ?_
    exact wX7_readTerm_J22 C _ _ _ _ _ _ _ _ _ _ _ _ _ hm _ _ _ (lv_sub hl [1, 0] rfl) hw
  · have hm := it_t hc hm
    refine lv_iconst (v := 1) hx hb dX7_readTerm_17 ci_1 ?_
    refine lv_goto (tgt := 22) hx hb dX7_readTerm_18 (by decide) ?_
    exact wX7_readTerm_J22 C _ _ _ _ _ _ _ _ _ _ _ _ _ hm _ _ _ (lv_sub hl [1, 0] rfl) hw
def mX7_read_L23 : Nat → Int32 → mI → mA → mL → mA → mA → Option (Int32 × mI × mA × mL × mA × mA)
  | 0, _, _, _, _, _, _ => none
  | n + 1, l2, iv, ar, la, pA, pB => if 200 < l2 then some (0, iv, ar, la, pA, pB) else obc (mX7_readLabel iv ar la pA pB) (fun r31 iv31 ar31 la31 pA31 pB31 => if r31 = 0 then some (0, iv31, ar31, la31, pA31, pB31) else obc (mX7_readTerm iv31 ar31 la31 pA31 pB31) (fun r38 iv38 ar38 la38 pA38 pB38 => if r38 = 0 then some (0, iv38, ar38, la38, pA38, pB38) else if (iv38 707) = 0 then obc (mX8_takeEnd iv38 ar38 la38 pA38 pB38) (fun r57 iv57 ar57 la57 pA57 pB57 => if r57 = 0 ∨ r57 = 1 then some (r57, iv57, ar57, la57, pA57, pB57) else none) else mX7_read_L23 n (l2 + 1) iv38 ar38 la38 pA38 pB38))
set_option maxRecDepth 100000 in
set_option maxHeartbeats 4000000 in
theorem wX7_read_L23 (C : mCx p s m args meth c RX7 cX7_read 3 (some .boolean) D cI cJ A) (n : Nat) : ∀ (l2 : Int32) (iv : mI) (ar : mA) (la : mL) (pA : mA) (pB : mA) (rz : Int32) (ivz : mI) (arz : mA) (laz : mL) (pAz : mA) (pBz : mA), mX7_read_L23 n l2 iv ar la pA pB = some (rz, ivz, arz, laz, pAz, pBz) → ∀ (H : Heap) (locs : List Loc) (ls : Array Slot), lv_has ls 3 [(0, .ref (oc 7)), (2, .int l2)] → inW D A s (wC cI cJ oc ac pa pb aa ab xp xs pb cp mp iv ar la pA pB) H locs → W p l e (rmO 5 116) s m args below meth c H locs 0 0 (MQ below (ctQ D cI cJ (wC cI cJ oc ac pa pb aa ab xp xs pb cp mp ivz arz laz pAz pBz) A rz) args s 0 0 A) (F0 m 23 ls []) := by
  induction n with
  | zero =>
    intro l2 iv ar la pA pB rz ivz arz laz pAz pBz hm H locs ls hl hw
    have hm : (none : Option (Int32 × mI × mA × mL × mA × mA)) = some _ := hm
    cases hm
  | succ n ih =>
    intro l2 iv ar la pA pB rz ivz arz laz pAz pBz hm H locs ls hl hw
    have hx := C.1.1
    have hb := C.1.2.1
    unfold mX7_read_L23 at hm
    refine lv_iload_n hx hb dX7_read_23 rfl (lv_at hl 1 rfl) ?_
    refine lv_sipush (v := 200) hx hb dX7_read_24 cs_200 ?_
    refine lv_icmp_gt (tgt := 67) hx hb dX7_read_27 (by decide) (fun hc => ?_) (fun hc => ?_)
    · have hm := it_t hc hm
      refine lv_iconst (v := 0) hx hb dX7_read_67 ci_0 ?_
      cases hm
      exact g_zret C hw (Or.inl rfl) dX7_read_68
    · have hm := it_f hc hm
      refine lv_aload_n hx hb dX7_read_30 rfl (lv_at hl 0 rfl) ?_
      obtain ⟨r31, iv31, ar31, la31, pA31, pB31, hc31, hm⟩ := obc_some hm
      refine g_calli (As := []) (rest := []) C hw (kX7_readLabel hc31) mtX7_readLabel lkX7_46 oC7 hl.1 rfl rfl (Nat.le_of_ble_eq_true rfl) ⟨Nat.le_of_ble_eq_true rfl, Nat.le_of_ble_eq_true rfl⟩ dX7_read_31 ⟨Nat.zero_le _, Nat.zero_le _⟩ (fun H locs hw => ?_)
      refine lv_if_eq (tgt := 44) hx hb dX7_read_34 (by decide) (fun hc => ?_) (fun hc => ?_)
      · have hm := it_t hc hm
        refine lv_iconst (v := 0) hx hb dX7_read_44 ci_0 ?_
        cases hm
        exact g_zret C hw (Or.inl rfl) dX7_read_45
      · have hm := it_f hc hm
        refine lv_aload_n hx hb dX7_read_37 rfl (lv_at hl 0 rfl) ?_
        obtain ⟨r38, iv38, ar38, la38, pA38, pB38, hc38, hm⟩ := obc_some hm
        refine g_calli (As := []) (rest := []) C hw (kX7_readTerm hc38) mtX7_readTerm lkX7_50 oC7 hl.1 rfl rfl (Nat.le_of_ble_eq_true rfl) ⟨Nat.le_of_ble_eq_true rfl, Nat.le_of_ble_eq_true rfl⟩ dX7_read_38 ⟨Nat.zero_le _, Nat.zero_le _⟩ (fun H locs hw => ?_)
        refine lv_if_ne (tgt := 46) hx hb dX7_read_41 (by decide) (fun hc => ?_) (fun hc => ?_)
        · have hm := it_f hc hm
          refine lv_aload_n hx hb dX7_read_46 rfl (lv_at hl 0 rfl) ?_
          refine g_get C hw gC7_7 dX7_read_47 ?_
          refine lv_if_ne (tgt := 61) hx hb dX7_read_50 (by decide) (fun hc => ?_) (fun hc => ?_)
          · have hm := it_f hc hm
            refine lv_iinc (v := (l2 + 1)) (lv' := [(2, .int (l2 + 1)), (0, .ref (oc 7))]) hx hb dX7_read_61 hl (k := 1) rfl (ii_ ci_1) (by decide) rfl (fun ls hl => ?_)
            refine lv_goto (tgt := 23) hx hb dX7_read_64 (by decide) ?_
            exact ih _ _ _ _ _ _ _ _ _ _ _ _ hm _ _ _ (lv_sub hl [1, 0] rfl) hw
          · have hm := it_t hc hm
            refine lv_aload_n hx hb dX7_read_53 rfl (lv_at hl 0 rfl) ?_
            refine g_get C hw gC7_0 dX7_read_54 ?_
            obtain ⟨r57, iv57, ar57, la57, pA57, pB57, hc57, hm⟩ := obc_some hm
            refine g_calli (As := []) (rest := []) C hw (kX8_takeEnd hc57) mtX8_takeEnd lkX7_53 oC8 hl.1 rfl rfl (Nat.le_of_ble_eq_true rfl) ⟨Nat.le_of_ble_eq_true rfl, Nat.le_of_ble_eq_true rfl⟩ dX7_read_57 ⟨Nat.zero_le _, Nat.zero_le _⟩ (fun H locs hw => ?_)
            obtain ⟨hz, hm⟩ := it_z hm
            cases hm
            exact g_zret C hw hz dX7_read_60
        · have hm := it_t hc hm
          refine lv_iconst (v := 0) hx hb dX7_read_44 ci_0 ?_
          cases hm
          exact g_zret C hw (Or.inl rfl) dX7_read_45
def mX7_read  (iv : mI) (ar : mA) (la : mL) (pA : mA) (pB : mA) : Option (Int32 × mI × mA × mL × mA × mA) := obc (mX6_startB iv ar la pA pB) (fun r13 iv13 ar13 la13 pA13 pB13 => mX7_read_L23 bigF 0 (va_up iv13 707 0) ar13 la13 pA13 pB13)
set_option maxRecDepth 100000 in
set_option maxHeartbeats 4000000 in
theorem kX7_read {iv ivz : mI} {ar arz : mA} {la laz : mL} {pA pAz : mA} {pB pBz : mA} {rz : Int32} (hm : mX7_read iv ar la pA pB = some (rz, ivz, arz, laz, pAz, pBz)) : Ct l D cI cJ yX7_read cX7_read 3 (some .boolean) 5 116 [.ref (oc 7), .ref pb] (wC cI cJ oc ac pa pb aa ab xp xs tp cp mp iv ar la pA pB) (wC cI cJ oc ac pa pb aa ab xp xs pb cp mp ivz arz laz pAz pBz) rz := by
  intro sz
  refine ct_of (by decide) (Nat.le_of_ble_eq_true rfl) ?_
  intro p e s m args below meth c C hw ls hl
  have hl : lv_has ls 3 [(0, .ref (oc 7)), (1, .ref pb)] := hl
  have hx := C.1.1
  have hb := C.1.2.1
  unfold mX7_read at hm
  refine lv_aload_n hx hb dX7_read_0 rfl (lv_at hl 0 rfl) ?_
  refine lv_aload_n hx hb dX7_read_1 rfl (lv_at hl 1 rfl) ?_
  refine g_put C hw pC7_2 dX7_read_2 (fun H locs hw => ?_)
  refine lv_aload_n hx hb dX7_read_5 rfl (lv_at hl 0 rfl) ?_
  refine g_get C hw gC7_2 dX7_read_6 ?_
  refine lv_aload_n hx hb dX7_read_9 rfl (lv_at hl 0 rfl) ?_
  refine g_get C hw gC7_0 dX7_read_10 ?_
  obtain ⟨r13, iv13, ar13, la13, pA13, pB13, hc13, hm⟩ := obc_some hm
  refine g_callv (As := [.ref (oc 8)]) (rest := []) C hw (kX6_startB hc13) mtX6_start lkX7_36 oC6B hl.1 rfl rfl (Nat.le_of_ble_eq_true rfl) ⟨Nat.le_of_ble_eq_true rfl, Nat.le_of_ble_eq_true rfl⟩ dX7_read_13 ⟨Nat.zero_le _, Nat.zero_le _⟩ (fun H locs hw => ?_)
  refine lv_aload_n hx hb dX7_read_16 rfl (lv_at hl 0 rfl) ?_
  refine lv_iconst (v := 0) hx hb dX7_read_17 ci_0 ?_
  refine g_put C hw pC7_7 dX7_read_18 (fun H locs hw => ?_)
  refine lv_iconst (v := 0) hx hb dX7_read_21 ci_0 ?_
  refine lv_istore_n (lv' := [(2, .int 0), (0, .ref (oc 7)), (1, .ref pb)]) hx hb dX7_read_22 rfl hl (by decide) rfl (fun ls hl => ?_)
  exact wX7_read_L23 C bigF _ _ _ _ _ _ _ _ _ _ _ _ hm _ _ _ (lv_sub hl [1, 0] rfl) hw
end
