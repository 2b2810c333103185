section
variable {l : Launch} {p : Program} {e : Env} {s : State} {m : MethodId} {args : Array Value} {below : List Frame} {meth : Method} {c : Code} {D : va_G} {cI cJ : ClassId} {A : Nat → Prop} {oc ac : Nat → Nat} {pa pb : Nat} {aa ab : Nat → Nat} {xp xs tp cp mp : Nat}
def mX2_joinBranches_L61 : Nat → Int32 → Int32 → Int32 → Int32 → mI → mA → mL → mA → mA → Option (Int32 × mI × mA × mL × mA × mA)
  | 0, _, _, _, _, _, _, _, _, _ => none
  | n + 1, l1, l5, l6, l7, iv, ar, la, pA, pB => if l5 ≤ l7 then some (l6, iv, ar, la, pA, pB) else if l6 < 0 then some (l6, iv, ar, la, pA, pB) else obc (mX2_typeIn l1 l7 iv ar la pA pB) (fun r84 iv84 ar84 la84 pA84 pB84 => obc (mX0_join 0 l6 r84 iv84 ar84 la84 pA84 pB84) (fun r87 iv87 ar87 la87 pA87 pB87 => mX2_joinBranches_L61 n l1 l5 r87 (l7 + 1) iv87 ar87 la87 pA87 pB87))
set_option maxRecDepth 100000 in
set_option maxHeartbeats 4000000 in
theorem wX2_joinBranches_L61 (C : mCx p s m args meth c RX2 cX2_joinBranches 8 (some .int) D cI cJ A) (n : Nat) : ∀ (l1 : Int32) (l5 : Int32) (l6 : Int32) (l7 : Int32) (iv : mI) (ar : mA) (la : mL) (pA : mA) (pB : mA) (rz : Int32) (ivz : mI) (arz : mA) (laz : mL) (pAz : mA) (pBz : mA), mX2_joinBranches_L61 n l1 l5 l6 l7 iv ar la pA pB = some (rz, ivz, arz, laz, pAz, pBz) → ∀ (H : Heap) (locs : List Loc) (ls : Array Slot), lv_has ls 8 [(0, .ref (oc 2)), (1, .int l1), (5, .int l5), (6, .int l6), (7, .int l7)] → inW D A s (wC cI cJ oc ac pa pb aa ab xp xs tp pb mp iv ar la pA pB) H locs → W p l e (rmO 4 104) s m args below meth c H locs 0 0 (MQ below (ctQ D cI cJ (wC cI cJ oc ac pa pb aa ab xp xs tp pb mp ivz arz laz pAz pBz) A rz) args s 0 0 A) (F0 m 61 ls []) := by
  induction n with
  | zero =>
    intro l1 l5 l6 l7 iv ar la pA pB rz ivz arz laz pAz pBz hm H locs ls hl hw
    have hm : (none : Option (Int32 × mI × mA × mL × mA × mA)) = some _ := hm
    cases hm
  | succ n ih =>
    intro l1 l5 l6 l7 iv ar la pA pB rz ivz arz laz pAz pBz hm H locs ls hl hw
    have hx := C.1.1
    have hb := C.1.2.1
    unfold mX2_joinBranches_L61 at hm
    refine lv_iload hx hb dX2_joinBranches_61 (lv_at hl 4 rfl) ?_
    refine lv_iload hx hb dX2_joinBranches_63 (lv_at hl 2 rfl) ?_
    refine lv_icmp_ge (tgt := 98) hx hb dX2_joinBranches_65 (by decide) (fun hc => ?_) (fun hc => ?_)
    · have hm := it_t hc hm
      refine lv_iload hx hb dX2_joinBranches_98 (lv_at hl 3 rfl) ?_
      cases hm
      exact g_iret C hw dX2_joinBranches_100
    · have hm := it_f hc hm
      refine lv_iload hx hb dX2_joinBranches_68 (lv_at hl 3 rfl) ?_
      refine lv_if_lt (tgt := 98) hx hb dX2_joinBranches_70 (by decide) (fun hc => ?_) (fun hc => ?_)
      · have hm := it_t hc hm
        refine lv_iload hx hb dX2_joinBranches_98 (lv_at hl 3 rfl) ?_
        cases hm
        exact g_iret C hw dX2_joinBranches_100
      · have hm := it_f hc hm
        refine lv_aload_n hx hb dX2_joinBranches_73 rfl (lv_at hl 0 rfl) ?_
        refine g_get C hw gC2_2 dX2_joinBranches_74 ?_
        refine lv_iconst (v := 0) hx hb dX2_joinBranches_77 ci_0 ?_
        refine lv_iload hx hb dX2_joinBranches_78 (lv_at hl 3 rfl) ?_
        refine lv_aload_n hx hb dX2_joinBranches_80 rfl (lv_at hl 0 rfl) ?_
        refine lv_iload_n hx hb dX2_joinBranches_81 rfl (lv_at hl 1 rfl) ?_
        refine lv_iload hx hb dX2_joinBranches_82 (lv_at hl 4 rfl) ?_
        obtain ⟨r84, iv84, ar84, la84, pA84, pB84, hc84, hm⟩ := obc_some hm
        refine g_calli (As := [.int l1, .int l7]) (rest := [.int l6, .int 0, .ref (oc 0)]) C hw (kX2_typeIn hc84) mtX2_typeIn lkX2_84 oC2 hl.1 rfl rfl (Nat.le_of_ble_eq_true rfl) ⟨Nat.le_of_ble_eq_true rfl, Nat.le_of_ble_eq_true rfl⟩ dX2_joinBranches_84 ⟨Nat.zero_le _, Nat.zero_le _⟩ (fun H locs hw => ?_)
        obtain ⟨r87, iv87, ar87, la87, pA87, pB87, hc87, hm⟩ := obc_some hm
        refine g_calli (As := [.int 0, .int l6, .int r84]) (rest := []) C hw (kX0_join hc87) mtX0_join lkX2_101 oC0 hl.1 rfl rfl (Nat.le_of_ble_eq_true rfl) ⟨Nat.le_of_ble_eq_true rfl, Nat.le_of_ble_eq_true rfl⟩ dX2_joinBranches_87 ⟨Nat.zero_le _, Nat.zero_le _⟩ (fun H locs hw => ?_)
        refine lv_istore (lv' := [(6, .int r87), (0, .ref (oc 2)), (1, .int l1), (5, .int l5), (7, .int l7)]) hx hb dX2_joinBranches_90 hl (by decide) rfl (fun ls hl => ?_)
        refine lv_iinc (v := (l7 + 1)) (lv' := [(7, .int (l7 + 1)), (6, .int r87), (0, .ref (oc 2)), (1, .int l1), (5, .int l5)]) hx hb dX2_joinBranches_92 hl (k := 4) rfl (ii_ ci_1) (by decide) rfl (fun ls hl => ?_)
        refine lv_goto (tgt := 61) hx hb dX2_joinBranches_95 (by decide) ?_
        exact ih _ _ _ _ _ _ _ _ _ _ _ _ _ _ _ hm _ _ _ (lv_sub hl [2, 3, 4, 1, 0] rfl) hw
def mX2_joinBranches_J20 (l1 : Int32) (l2 : Int32) (l3 : Int32) (s0 : Int32) (iv : mI) (ar : mA) (la : mL) (pA : mA) (pB : mA) : Option (Int32 × mI × mA × mL × mA × mA) := if l3 = 28 then mX2_joinBranches_L61 bigF l1 3 l2 s0 iv ar la pA pB else if l3 = 32 then obc (mX6_kidCountB l1 iv ar la pA pB) (fun r43 iv43 ar43 la43 pA43 pB43 => mX2_joinBranches_L61 bigF l1 (r43 - 1) l2 s0 iv43 ar43 la43 pA43 pB43) else mX2_joinBranches_L61 bigF l1 0 l2 s0 iv ar la pA pB
set_option maxRecDepth 100000 in
set_option maxHeartbeats 4000000 in
theorem wX2_joinBranches_J20 (C : mCx p s m args meth c RX2 cX2_joinBranches 8 (some .int) D cI cJ A) : ∀ (l1 : Int32) (l2 : Int32) (l3 : Int32) (s0 : Int32) (iv : mI) (ar : mA) (la : mL) (pA : mA) (pB : mA) (rz : Int32) (ivz : mI) (arz : mA) (laz : mL) (pAz : mA) (pBz : mA), mX2_joinBranches_J20 l1 l2 l3 s0 iv ar la pA pB = some (rz, ivz, arz, laz, pAz, pBz) → ∀ (H : Heap) (locs : List Loc) (ls : Array Slot), lv_has ls 8 [(0, .ref (oc 2)), (1, .int l1), (2, .int l2), (3, .int l3)] → inW D A s (wC cI cJ oc ac pa pb aa ab xp xs tp pb mp iv ar la pA pB) H locs → W p l e (rmO 4 104) s m args below meth c H locs 0 0 (MQ below (ctQ D cI cJ (wC cI cJ oc ac pa pb aa ab xp xs tp pb mp ivz arz laz pAz pBz) A rz) args s 0 0 A) (F0 m 20 ls [.int s0]) := by
  intro l1 l2 l3 s0 iv ar la pA pB rz ivz arz laz pAz pBz hm H locs ls hl hw
  have hx := C.1.1
  have hb := C.1.2.1
  unfold mX2_joinBranches_J20 at hm
  refine lv_istore (lv' := [(4, .int s0), (0, .ref (oc 2)), (1, .int l1), (2, .int l2), (3, .int l3)]) hx hb dX2_joinBranches_20 hl (by decide) rfl (fun ls hl => ?_)
  refine lv_iload_n hx hb dX2_joinBranches_22 rfl (lv_at hl 4 rfl) ?_
  refine lv_bipush (v := 28) hx hb dX2_joinBranches_23 cb_28 ?_
  refine lv_icmp_ne (tgt := 32) hx hb dX2_joinBranches_25 (by decide) (fun hc => ?_) (fun hc => ?_)
  · have hm := it_f hc hm
    refine lv_iload_n hx hb dX2_joinBranches_32 rfl (lv_at hl 4 rfl) ?_
    refine lv_bipush (v := 32) hx hb dX2_joinBranches_33 cb_32 ?_
    refine lv_icmp_ne (tgt := 51) hx hb dX2_joinBranches_35 (by decide) (fun hc => ?_) (fun hc => ?_)
    · have hm := it_f hc hm
      refine lv_iconst (v := 0) hx hb dX2_joinBranches_51 ci_0 ?_
      refine lv_istore (lv' := [(5, .int 0), (4, .int s0), (0, .ref (oc 2)), (1, .int l1), (2, .int l2), (3, .int l3)]) hx hb dX2_joinBranches_52 hl (by decide) rfl (fun ls hl => ?_)
      refine lv_iload_n hx hb dX2_joinBranches_54 rfl (lv_at hl 4 rfl) ?_
      refine lv_istore (lv' := [(6, .int l2), (5, .int 0), (4, .int s0), (0, .ref (oc 2)), (1, .int l1), (2, .int l2), (3, .int l3)]) hx hb dX2_joinBranches_55 hl (by decide) rfl (fun ls hl => ?_)
      refine lv_iload hx hb dX2_joinBranches_57 (lv_at hl 2 rfl) ?_
      refine lv_istore (lv' := [(7, .int s0), (6, .int l2), (5, .int 0), (4, .int s0), (0, .ref (oc 2)), (1, .int l1), (2, .int l2), (3, .int l3)]) hx hb dX2_joinBranches_59 hl (by decide) rfl (fun ls hl => ?_)
      exact wX2_joinBranches_L61 C bigF _ _ _ _ _ _ _ _ _ _ _ _ _ _ _ hm _ _ _ (lv_sub hl [4, 5, 2, 1, 0] rfl) hw
    · have hm := it_t hc hm
      refine lv_aload_n hx hb dX2_joinBranches_38 rfl (lv_at hl 1 rfl) ?_
      refine g_get C hw gC2_3 dX2_joinBranches_39 ?_
      refine lv_iload_n hx hb dX2_joinBranches_42 rfl (lv_at hl 2 rfl) ?_
      obtain ⟨r43, iv43, ar43, la43, pA43, pB43, hc43, hm⟩ := obc_some hm
      refine g_calli (As := [.int l1]) (rest := []) C hw (kX6_kidCountB hc43) mtX6_kidCount lkX2_81 oC6B hl.1 rfl rfl (Nat.le_of_ble_eq_true rfl) ⟨Nat.le_of_ble_eq_true rfl, Nat.le_of_ble_eq_true rfl⟩ dX2_joinBranches_43 ⟨Nat.zero_le _, Nat.zero_le _⟩ (fun H locs hw => ?_)
      refine lv_iconst (v := 1) hx hb dX2_joinBranches_46 ci_1 ?_
      refine lv_isub hx hb dX2_joinBranches_47 ?_
      refine lv_goto (tgt := 52) hx hb dX2_joinBranches_48 (by decide) ?_
      refine lv_istore (lv' := [(5, .int (r43 - 1)), (4, .int s0), (0, .ref (oc 2)), (1, .int l1), (2, .int l2), (3, .int l3)]) hx hb dX2_joinBranches_52 hl (by decide) rfl (fun ls hl => ?_)
      refine lv_iload_n hx hb dX2_joinBranches_54 rfl (lv_at hl 4 rfl) ?_
      refine lv_istore (lv' := [(6, .int l2), (5, .int (r43 - 1)), (4, .int s0), (0, .ref (oc 2)), (1, .int l1), (2, .int l2), (3, .int l3)]) hx hb dX2_joinBranches_55 hl (by decide) rfl (fun ls hl => ?_)
      refine lv_iload hx hb dX2_joinBranches_57 (lv_at hl 2 rfl) ?_
      refine lv_istore (lv' := [(7, .int s0), (6, .int l2), (5, .int (r43 - 1)), (4, .int s0), (0, .ref (oc 2)), (1, .int l1), (2, .int l2), (3, .int l3)]) hx hb dX2_joinBranches_59 hl (by decide) rfl (fun ls hl => ?_)
      exact wX2_joinBranches_L61 C bigF _ _ _ _ _ _ _ _ _ _ _ _ _ _ _ hm _ _ _ (lv_sub hl [4, 5, 2, 1, 0] rfl) hw
  · have hm := it_t hc hm
    refine lv_iconst (v := 3) hx hb dX2_joinBranches_28 ci_3 ?_
    refine lv_goto (tgt := 52) hx hb dX2_joinBranches_29 (by decide) ?_
    refine lv_istore (lv' := [(5, .int 3), (4, .int s0), (0, .ref (oc 2)), (1, .int l1), (2, .int l2), (3, .int l3)]) hx hb dX2_joinBranches_52 hl (by decide) rfl (fun ls hl => ?_)
    refine lv_iload_n hx hb dX2_joinBranches_54 rfl (lv_at hl 4 rfl) ?_
    refine lv_istore (lv' := [(6, .int l2), (5, .int 3), (4, .int s0), (0, .ref (oc 2)), (1, .int l1), (2, .int l2), (3, .int l3)]) hx hb dX2_joinBranches_55 hl (by decide) rfl (fun ls hl => ?_)
    refine lv_iload hx hb dX2_joinBranches_57 (lv_at hl 2 rfl) ?_
    refine lv_istore (lv' := [(7, .int s0), (6, .int l2), (5, .int 3), (4, .int s0), (0, .ref (oc 2)), (1, .int l1), (2, .int l2), (3, .int l3)]) hx hb dX2_joinBranches_59 hl (by decide) rfl (fun ls hl => ?_)
    exact wX2_joinBranches_L61 C bigF _ _ _ _ _ _ _ _ _ _ _ _ _ _ _ hm _ _ _ (lv_sub hl [4, 5, 2, 1, 0] rfl) hw
def mX2_joinBranches (a1 : Int32) (a2 : Int32) (iv : mI) (ar : mA) (la : mL) (pA : mA) (pB : mA) : Option (Int32 × mI × mA × mL × mA × mA) := obc (mX6_wordB a1 iv ar la pA pB) (fun r5 iv5 ar5 la5 pA5 pB5 => if r5 = 28 then mX2_joinBranches_J20 a1 a2 r5 2 iv5 ar5 la5 pA5 pB5 else mX2_joinBranches_J20 a1 a2 r5 1 iv5 ar5 la5 pA5 pB5)
set_option maxRecDepth 100000 in
set_option maxHeartbeats 4000000 in
theorem kX2_joinBranches {a1 a2 : Int32} {iv ivz : mI} {ar arz : mA} {la laz : mL} {pA pAz : mA} {pB pBz : mA} {rz : Int32} (hm : mX2_joinBranches a1 a2 iv ar la pA pB = some (rz, ivz, arz, laz, pAz, pBz)) : Ct l D cI cJ yX2_joinBranches cX2_joinBranches 8 (some .int) 4 104 [.ref (oc 2), .int a1, .int a2] (wC cI cJ oc ac pa pb aa ab xp xs tp pb mp iv ar la pA pB) (wC cI cJ oc ac pa pb aa ab xp xs tp pb mp ivz arz laz pAz pBz) rz := by
  intro sz
  refine ct_of (by decide) (Nat.le_of_ble_eq_true rfl) ?_
  intro p e s m args below meth c C hw ls hl
  have hl : lv_has ls 8 [(0, .ref (oc 2)), (1, .int a1), (2, .int a2)] := hl
  have hx := C.1.1
  have hb := C.1.2.1
  unfold mX2_joinBranches at hm
  refine lv_aload_n hx hb dX2_joinBranches_0 rfl (lv_at hl 0 rfl) ?_
  refine g_get C hw gC2_3 dX2_joinBranches_1 ?_
  refine lv_iload_n hx hb dX2_joinBranches_4 rfl (lv_at hl 1 rfl) ?_
  obtain ⟨r5, iv5, ar5, la5, pA5, pB5, hc5, hm⟩ := obc_some hm
  refine g_calli (As := [.int a1]) (rest := []) C hw (kX6_wordB hc5) mtX6_word lkX2_72 oC6B hl.1 rfl rfl (Nat.le_of_ble_eq_true rfl) ⟨Nat.le_of_ble_eq_true rfl, Nat.le_of_ble_eq_true rfl⟩ dX2_joinBranches_5 ⟨Nat.zero_le _, Nat.zero_le _⟩ (fun H locs hw => ?_)
  refine lv_istore_n (lv' := [(3, .int r5), (0, .ref (oc 2)), (1, .int a1), (2, .int a2)]) hx hb dX2_joinBranches_8 rfl hl (by decide) rfl (fun ls hl => ?_)
  refine lv_iload_n hx hb dX2_joinBranches_9 rfl (lv_at hl 0 rfl) ?_
  refine lv_bipush (v := 28) hx hb dX2_joinBranches_10 cb_28 ?_
  refine lv_icmp_ne (tgt := 19) hx hb dX2_joinBranches_12 (by decide) (fun hc => ?_) (fun hc => ?_)
  · have hm := it_f hc hm
    refine lv_iconst (v := 1) hx hb dX2_joinBranches_19 ci_1 ?_
    exact wX2_joinBranches_J20 C _ _ _ _ _ _ _ _ _ _ _ _ _ _ _ hm _ _ _ (lv_sub hl [1, 2, 3, 0] rfl) hw
  · have hm := it_t hc hm
    refine lv_iconst (v := 2) hx hb dX2_joinBranches_15 ci_2 ?_
    refine lv_goto (tgt := 20) hx hb dX2_joinBranches_16 (by decide) ?_
    exact wX2_joinBranches_J20 C _ _ _ _ _ _ _ _ _ _ _ _ _ _ _ hm _ _ _ (lv_sub hl [1, 2, 3, 0] rfl) hw
def mX2_setType_J11 (l1 : Int32) (l2 : Int32) (iv : mI) (ar : mA) (la : mL) (pA : mA) (pB : mA) : Option (Int32 × mI × mA × mL × mA × mA) := if l1 < 0 then some (0, iv, ar, la, pA, pB) else if 200 ≤ l1 then some (0, iv, ar, la, pA, pB) else if l1 < 0 ∨ 200 ≤ l1.toNatClampNeg then none else some (0, iv, au ar 204 l1.toNatClampNeg l2, la, pA, pB)
set_option maxRecDepth 100000 in
set_option maxHeartbeats 4000000 in
theorem wX2_setType_J11 (C : mCx p s m args meth c RX2 cX2_setType 3 none D cI cJ A) : ∀ (l1 : Int32) (l2 : Int32) (iv : mI) (ar : mA) (la : mL) (pA : mA) (pB : mA) (rz : Int32) (ivz : mI) (arz : mA) (laz : mL) (pAz : mA) (pBz : mA), mX2_setType_J11 l1 l2 iv ar la pA pB = some (rz, ivz, arz, laz, pAz, pBz) → ∀ (H : Heap) (locs : List Loc) (ls : Array Slot), lv_has ls 3 [(0, .ref (oc 2)), (1, .int l1), (2, .int l2)] → inW D A s (wC cI cJ oc ac pa pb aa ab xp xs tp pb mp iv ar la pA pB) H locs → W p l e (rmO 0 0) s m args below meth c H locs 0 0 (MQ below (ctQv D cI cJ (wC cI cJ oc ac pa pb aa ab xp xs tp pb mp ivz arz laz pAz pBz) A) args s 0 0 A) (F0 m 11 ls []) := by
  intro l1 l2 iv ar la pA pB rz ivz arz laz pAz pBz hm H locs ls hl hw
  have hx := C.1.1
  have hb := C.1.2.1
  unfold mX2_setType_J11 at hm
  refine lv_iload_n hx hb dX2_setType_11 rfl (lv_at hl 1 rfl) ?_
  refine lv_if_lt (tgt := 29) hx hb dX2_setType_12 (by decide) (fun hc => ?_) (fun hc => ?_)
  · have hm := it_t hc hm
    cases hm
    exact g_vret C hw dX2_setType_29
  · have hm := it_f hc hm
    refine lv_iload_n hx hb dX2_setType_15 rfl (lv_at hl 1 rfl) ?_
    refine lv_sipush (v := 200) hx hb dX2_setType_16 cs_200 ?_
    refine lv_icmp_ge (tgt := 29) hx hb dX2_setType_19 (by decide) (fun hc => ?_) (fun hc => ?_)
    · have hm := it_t hc hm
      cases hm
      exact g_vret C hw dX2_setType_29
    · have hm := it_f hc hm
      refine lv_aload_n hx hb dX2_setType_22 rfl (lv_at hl 0 rfl) ?_
      refine g_get C hw gC2_4 dX2_setType_23 ?_
      refine lv_iload_n hx hb dX2_setType_26 rfl (lv_at hl 1 rfl) ?_
      refine lv_iload_n hx hb dX2_setType_27 rfl (lv_at hl 2 rfl) ?_
      obtain ⟨hi, hm⟩ := it_a hm
      refine g_ast C hw sC2_4 hi dX2_setType_28 (fun H locs hw => ?_)
      cases hm
      exact g_vret C hw dX2_setType_29
def mX2_setType (a1 : Int32) (a2 : Int32) (iv : mI) (ar : mA) (la : mL) (pA : mA) (pB : mA) : Option (Int32 × mI × mA × mL × mA × mA) := if a2 = (-15) then mX2_setType_J11 a1 a2 (va_up iv 209 a1) ar la pA pB else mX2_setType_J11 a1 a2 iv ar la pA pB
set_option maxRecDepth 100000 in
set_option maxHeartbeats 4000000 in
theorem kX2_setType {a1 a2 : Int32} {iv ivz : mI} {ar arz : mA} {la laz : mL} {pA pAz : mA} {pB pBz : mA} {rz : Int32} (hm : mX2_setType a1 a2 iv ar la pA pB = some (rz, ivz, arz, laz, pAz, pBz)) : CtV l D cI cJ yX2_setType cX2_setType 3 0 0 [.ref (oc 2), .int a1, .int a2] (wC cI cJ oc ac pa pb aa ab xp xs tp pb mp iv ar la pA pB) (wC cI cJ oc ac pa pb aa ab xp xs tp pb mp ivz arz laz pAz pBz) := by
  intro sz
  refine ct_of (by decide) (Nat.le_of_ble_eq_true rfl) ?_
  intro p e s m args below meth c C hw ls hl
  have hl : lv_has ls 3 [(0, .ref (oc 2)), (1, .int a1), (2, .int a2)] := hl
  have hx := C.1.1
  have hb := C.1.2.1
  unfold mX2_setType at hm
  refine lv_iload_n hx hb dX2_setType_0 rfl (lv_at hl 2 rfl) ?_
  refine lv_bipush (v := (-15)) hx hb dX2_setType_1 cb_m15 ?_
  refine lv_icmp_ne (tgt := 11) hx hb dX2_setType_3 (by decide) (fun hc => ?_) (fun hc => ?_)
  · have hm := it_f hc hm
    exact wX2_setType_J11 C _ _ _ _ _ _ _ _ _ _ _ _ _ hm _ _ _ (lv_sub hl [0, 1, 2] rfl) hw
  · have hm := it_t hc hm
    refine lv_aload_n hx hb dX2_setType_6 rfl (lv_at hl 0 rfl) ?_
    refine lv_iload_n hx hb dX2_setType_7 rfl (lv_at hl 1 rfl) ?_
    refine g_put C hw pC2_9 dX2_setType_8 (fun H locs hw => ?_)
    exact wX2_setType_J11 C _ _ _ _ _ _ _ _ _ _ _ _ _ hm _ _ _ (lv_sub hl [0, 1, 2] rfl) hw
def mX2_typeOfCase_J42 (s0 : Int32) (iv : mI) (ar : mA) (la : mL) (pA : mA) (pB : mA) : Option (Int32 × mI × mA × mL × mA × mA) := if s0 = (-1) then obc (mX3_make 1 iv ar la pA pB) (fun r60 iv60 ar60 la60 pA60 pB60 => some (r60, iv60, ar60, la60, pA60, pB60)) else some (s0, iv, ar, la, pA, pB)
set_option maxRecDepth 100000 in
set_option maxHeartbeats 4000000 in
theorem wX2_typeOfCase_J42 (C : mCx p s m args meth c RX2 cX2_typeOfCase 5 (some .int) D cI cJ A) : ∀ (s0 : Int32) (iv : mI) (ar : mA) (la : mL) (pA : mA) (pB : mA) (rz : Int32) (ivz : mI) (arz : mA) (laz : mL) (pAz : mA) (pBz : mA), mX2_typeOfCase_J42 s0 iv ar la pA pB = some (rz, ivz, arz, laz, pAz, pBz) → ∀ (H : Heap) (locs : List Loc) (ls : Array Slot), lv_has ls 5 [(0, .ref (oc 2))] → inW D A s (wC cI cJ oc ac pa pb aa ab xp xs tp pb mp iv ar la pA pB) H locs → W p l e (rmO 2 46) s m args below meth c H locs 0 0 (MQ below (ctQ D cI cJ (wC cI cJ oc ac pa pb aa ab xp xs tp pb mp ivz arz laz pAz pBz) A rz) args s 0 0 A) (F0 m 42 ls [.int s0]) := by
  intro s0 iv ar la pA pB rz ivz arz laz pAz pBz hm H locs ls hl hw
  have hx := C.1.1
  have hb := C.1.2.1
  unfold mX2_typeOfCase_J42 at hm
  refine lv_istore (lv' := [(4, .int s0), (0, .ref (oc 2))]) hx hb dX2_typeOfCase_42 hl (by decide) rfl (fun ls hl => ?_)
  refine lv_iload hx hb dX2_typeOfCase_44 (lv_at hl 0 rfl) ?_
  refine lv_iconst (v := (-1)) hx hb dX2_typeOfCase_46 ci_m1 ?_
  refine lv_icmp_eq (tgt := 55) hx hb dX2_typeOfCase_47 (by decide) (fun hc => ?_) (fun hc => ?_)
  · have hm := it_t hc hm
    refine lv_aload_n hx hb dX2_typeOfCase_55 rfl (lv_at hl 1 rfl) ?_
    refine g_get C hw gC2_0 dX2_typeOfCase_56 ?_
    refine lv_iconst (v := 1) hx hb dX2_typeOfCase_59 ci_1 ?_
    obtain ⟨r60, iv60, ar60, la60, pA60, pB60, hc60, hm⟩ := obc_some hm
    refine g_calli (As := [.int 1]) (rest := []) C hw (kX3_make hc60) mtX3_make lkX2_95 oC3 hl.1 rfl rfl (Nat.le_of_ble_eq_true rfl) ⟨Nat.le_of_ble_eq_true rfl, Nat.le_of_ble_eq_true rfl⟩ dX2_typeOfCase_60 ⟨Nat.zero_le _, Nat.zero_le _⟩ (fun H locs hw => ?_)
    cases hm
    exact g_iret C hw dX2_typeOfCase_63
  · have hm := it_f hc hm
    refine lv_iload hx hb dX2_typeOfCase_50 (lv_at hl 0 rfl) ?_
    refine lv_goto (tgt := 63) hx hb dX2_typeOfCase_52 (by decide) ?_
    cases hm
    exact g_iret C hw dX2_typeOfCase_63
def mX2_typeOfCase (a1 : Int32) (a2 : Int32) (iv : mI) (ar : mA) (la : mL) (pA : mA) (pB : mA) : Option (Int32 × mI × mA × mL × mA × mA) := obc (mX6_kidCountB a1 iv ar la pA pB) (fun r7 iv7 ar7 la7 pA7 pB7 => obc (mX2_typeIn a1 (r7 - 1) iv7 ar7 la7 pA7 pB7) (fun r12 iv12 ar12 la12 pA12 pB12 => obc (mX3_kindOf r12 iv12 ar12 la12 pA12 pB12) (fun r21 iv21 ar21 la21 pA21 pB21 => if r21 = 6 then obc (mX3_partOf r12 a2 iv21 ar21 la21 pA21 pB21) (fun r35 iv35 ar35 la35 pA35 pB35 => mX2_typeOfCase_J42 r35 iv35 ar35 la35 pA35 pB35) else mX2_typeOfCase_J42 (-1) iv21 ar21 la21 pA21 pB21)))
set_option maxRecDepth 100000 in
set_option maxHeartbeats 4000000 in
theorem kX2_typeOfCase {a1 a2 : Int32} {iv ivz : mI} {ar arz : mA} {la laz : mL} {pA pAz : mA} {pB pBz : mA} {rz : Int32} (hm : mX2_typeOfCase a1 a2 iv ar la pA pB = some (rz, ivz, arz, laz, pAz, pBz)) : Ct l D cI cJ yX2_typeOfCase cX2_typeOfCase 5 (some .int) 2 46 [.ref (oc 2), .int a1, .int a2] (wC cI cJ oc ac pa pb aa ab xp xs tp pb mp iv ar la pA pB) (wC cI cJ oc ac pa pb aa ab xp xs tp pb mp ivz arz laz pAz pBz) rz := by
  intro sz
  refine ct_of (by decide) (Nat.le_of_ble_eq_true rfl) ?_
  intro p e s m args below meth c C hw ls hl
  have hl : lv_has ls 5 [(0, .ref (oc 2)), (1, .int a1), (2, .int a2)] := hl
  have hx := C.1.1
  have hb := C.1.2.1
  unfold mX2_typeOfCase at hm
  refine lv_aload_n hx hb dX2_typeOfCase_0 rfl (lv_at hl 0 rfl) ?_
  refine lv_iload_n hx hb dX2_typeOfCase_1 rfl (lv_at hl 1 rfl) ?_
  refine lv_aload_n hx hb dX2_typeOfCase_2 rfl (lv_at hl 0 rfl) ?_
  refine g_get C hw gC2_3 dX2_typeOfCase_3 ?_
  refine lv_iload_n hx hb dX2_typeOfCase_6 rfl (lv_at hl 1 rfl) ?_
  obtain ⟨r7, iv7, ar7, la7, pA7, pB7, hc7, hm⟩ := obc_some hm
  refine g_calli (As := [.int a1]) (rest := [.int a1, .ref (oc 2)]) C hw (kX6_kidCountB hc7) mtX6_kidCount lkX2_81 oC6B hl.1 rfl rfl (Nat.le_of_ble_eq_true rfl) ⟨Nat.le_of_ble_eq_true rfl, Nat.le_of_ble_eq_true rfl⟩ dX2_typeOfCase_7 ⟨Nat.zero_le _, Nat.zero_le _⟩ (fun H locs hw => ?_)
  refine lv_iconst (v := 1) hx hb dX2_typeOfCase_10 ci_1 ?_
  refine lv_isub hx hb dX2_typeOfCase_11 ?_
  obtain ⟨r12, iv12, ar12, la12, pA12, pB12, hc12, hm⟩ := obc_some hm
  refine g_calli (As := [.int a1, .int (r7 - 1)]) (rest := []) C hw (kX2_typeIn hc12) mtX2_typeIn lkX2_84 oC2 hl.1 rfl rfl (Nat.le_of_ble_eq_true rfl) ⟨Nat.le_of_ble_eq_true rfl, Nat.le_of_ble_eq_true rfl⟩ dX2_typeOfCase_12 ⟨Nat.zero_le _, Nat.zero_le _⟩ (fun H locs hw => ?_)
  refine lv_istore_n (lv' := [(3, .int r12), (0, .ref (oc 2)), (1, .int a1), (2, .int a2)]) hx hb dX2_typeOfCase_15 rfl hl (by decide) rfl (fun ls hl => ?_)
  refine lv_aload_n hx hb dX2_typeOfCase_16 rfl (lv_at hl 1 rfl) ?_
  refine g_get C hw gC2_0 dX2_typeOfCase_17 ?_
  refine lv_iload_n hx hb dX2_typeOfCase_20 rfl (lv_at hl 0 rfl) ?_
  obtain ⟨r21, iv21, ar21, la21, pA21, pB21, hc21, hm⟩ := obc_some hm
  refine g_calli (As := [.int r12]) (rest := []) C hw (kX3_kindOf hc21) mtX3_kindOf lkX2_87 oC3 hl.1 rfl rfl (Nat.le_of_ble_eq_true rfl) ⟨Nat.le_of_ble_eq_true rfl, Nat.le_of_ble_eq_true rfl⟩ dX2_typeOfCase_21 ⟨Nat.zero_le _, Nat.zero_le _⟩ (fun H locs hw => ?_)
  refine lv_bipush (v := 6) hx hb dX2_typeOfCase_24 cb_6 ?_
  refine lv_icmp_ne (tgt := 41) hx hb dX2_typeOfCase_26 (by decide) (fun hc => ?_) (fun hc => ?_)
  · have hm := it_f hc hm
    refine lv_iconst (v := (-1)) hx hb dX2_typeOfCase_41 ci_m1 ?_
    exact wX2_typeOfCase_J42 C _ _ _ _ _ _ _ _ _ _ _ _ hm _ _ _ (lv_sub hl [1] rfl) hw
  · have hm := it_t hc hm
    refine lv_aload_n hx hb dX2_typeOfCase_29 rfl (lv_at hl 1 rfl) ?_
    refine g_get C hw gC2_0 dX2_typeOfCase_30 ?_
    refine lv_iload_n hx hb dX2_typeOfCase_33 rfl (lv_at hl 0 rfl) ?_
    refine lv_iload_n hx hb dX2_typeOfCase_34 rfl (lv_at hl 3 rfl) ?_
    obtain ⟨r35, iv35, ar35, la35, pA35, pB35, hc35, hm⟩ := obc_some hm
    refine g_calli (As := [.int r12, .int a2]) (rest := []) C hw (kX3_partOf hc35) mtX3_partOf lkX2_92 oC3 hl.1 rfl rfl (Nat.le_of_ble_eq_true rfl) ⟨Nat.le_of_ble_eq_true rfl, Nat.le_of_ble_eq_true rfl⟩ dX2_typeOfCase_35 ⟨Nat.zero_le _, Nat.zero_le _⟩ (fun H locs hw => ?_)
    refine lv_goto (tgt := 42) hx hb dX2_typeOfCase_38 (by decide) ?_
    exact wX2_typeOfCase_J42 C _ _ _ _ _ _ _ _ _ _ _ _ hm _ _ _ (lv_sub hl [1] rfl) hw
def mX2_bindIn_J68 (l2 : Int32) (l4 : Int32) (iv : mI) (ar : mA) (la : mL) (pA : mA) (pB : mA) : Option (Int32 × mI × mA × mL × mA × mA) := if l2 < 0 then some (l4, iv, ar, la, pA, pB) else if 200 ≤ l2 then some (l4, iv, ar, la, pA, pB) else if l2 < 0 ∨ 200 ≤ l2.toNatClampNeg then none else some (l4, iv, au ar 205 l2.toNatClampNeg l4, la, pA, pB)
set_option maxRecDepth 100000 in
set_option maxHeartbeats 4000000 in
theorem wX2_bindIn_J68 (C : mCx p s m args meth c RX2 cX2_bindIn 6 (some .int) D cI cJ A) : ∀ (l2 : Int32) (l4 : Int32) (iv : mI) (ar : mA) (la : mL) (pA : mA) (pB : mA) (rz : Int32) (ivz : mI) (arz : mA) (laz : mL) (pAz : mA) (pBz : mA), mX2_bindIn_J68 l2 l4 iv ar la pA pB = some (rz, ivz, arz, laz, pAz, pBz) → ∀ (H : Heap) (locs : List Loc) (ls : Array Slot), lv_has ls 6 [(0, .ref (oc 2)), (2, .int l2), (4, .int l4)] → inW D A s (wC cI cJ oc ac pa pb aa ab xp xs tp pb mp iv ar la pA pB) H locs → W p l e (rmO 3 70) s m args below meth c H locs 0 0 (MQ below (ctQ D cI cJ (wC cI cJ oc ac pa pb aa ab xp xs tp pb mp ivz arz laz pAz pBz) A rz) args s 0 0 A) (F0 m 68 ls []) := by
  intro l2 l4 iv ar la pA pB rz ivz arz laz pAz pBz hm H locs ls hl hw
  have hx := C.1.1
  have hb := C.1.2.1
  unfold mX2_bindIn_J68 at hm
  refine lv_iload_n hx hb dX2_bindIn_68 rfl (lv_at hl 1 rfl) ?_
  refine lv_if_lt (tgt := 87) hx hb dX2_bindIn_69 (by decide) (fun hc => ?_) (fun hc => ?_)
  · have hm := it_t hc hm
    refine lv_iload hx hb dX2_bindIn_87 (lv_at hl 2 rfl) ?_
    cases hm
    exact g_iret C hw dX2_bindIn_89
  · have hm := it_f hc hm
    refine lv_iload_n hx hb dX2_bindIn_72 rfl (lv_at hl 1 rfl) ?_
    refine lv_sipush (v := 200) hx hb dX2_bindIn_73 cs_200 ?_
    refine lv_icmp_ge (tgt := 87) hx hb dX2_bindIn_76 (by decide) (fun hc => ?_) (fun hc => ?_)
    · have hm := it_t hc hm
      refine lv_iload hx hb dX2_bindIn_87 (lv_at hl 2 rfl) ?_
      cases hm
      exact g_iret C hw dX2_bindIn_89
    · have hm := it_f hc hm
      refine lv_aload_n hx hb dX2_bindIn_79 rfl (lv_at hl 0 rfl) ?_
      refine g_get C hw gC2_5 dX2_bindIn_80 ?_
      refine lv_iload_n hx hb dX2_bindIn_83 rfl (lv_at hl 1 rfl) ?_
      refine lv_iload hx hb dX2_bindIn_84 (lv_at hl 2 rfl) ?_
      obtain ⟨hi, hm⟩ := it_a hm
      refine g_ast C hw sC2_5 hi dX2_bindIn_86 (fun H locs hw => ?_)
      refine lv_iload hx hb dX2_bindIn_87 (lv_at hl 2 rfl) ?_
      cases hm
      exact g_iret C hw dX2_bindIn_89
def mX2_bindIn_J27 (l1 : Int32) (l2 : Int32) (iv : mI) (ar : mA) (la : mL) (pA : mA) (pB : mA) : Option (Int32 × mI × mA × mL × mA × mA) := obc (mX6_wordB (l1 + 1) iv ar la pA pB) (fun r34 iv34 ar34 la34 pA34 pB34 => mX2_bindIn_J68 l2 r34 iv34 ar34 la34 pA34 pB34)
set_option maxRecDepth 100000 in
set_option maxHeartbeats 4000000 in
theorem wX2_bindIn_J27 (C : mCx p s m args meth c RX2 cX2_bindIn 6 (some .int) D cI cJ A) : ∀ (l1 : Int32) (l2 : Int32) (iv : mI) (ar : mA) (la : mL) (pA : mA) (pB : mA) (rz : Int32) (ivz : mI) (arz : mA) (laz : mL) (pAz : mA) (pBz : mA), mX2_bindIn_J27 l1 l2 iv ar la pA pB = some (rz, ivz, arz, laz, pAz, pBz) → ∀ (H : Heap) (locs : List Loc) (ls : Array Slot), lv_has ls 6 [(0, .ref (oc 2)), (1, .int l1), (2, .int l2)] → inW D A s (wC cI cJ oc ac pa pb aa ab xp xs tp pb mp iv ar la pA pB) H locs → W p l e (rmO 3 70) s m args below meth c H locs 0 0 (MQ below (ctQ D cI cJ (wC cI cJ oc ac pa pb aa ab xp xs tp pb mp ivz arz laz pAz pBz) A rz) args s 0 0 A) (F0 m 27 ls []) := by
  intro l1 l2 iv ar la pA pB rz ivz arz laz pAz pBz hm H locs ls hl hw
  have hx := C.1.1
  have hb := C.1.2.1
  unfold mX2_bindIn_J27 at hm
  refine lv_aload_n hx hb dX2_bindIn_27 rfl (lv_at hl 0 rfl) ?_
  refine g_get C hw gC2_3 dX2_bindIn_28 ?_
  refine lv_iload_n hx hb dX2_bindIn_31 rfl (lv_at hl 1 rfl) ?_
  refine lv_iconst (v := 1) hx hb dX2_bindIn_32 ci_1 ?_
  refine lv_iadd hx hb dX2_bindIn_33 ?_
  obtain ⟨r34, iv34, ar34, la34, pA34, pB34, hc34, hm⟩ := obc_some hm
  refine g_calli (As := [.int (l1 + 1)]) (rest := []) C hw (kX6_wordB hc34) mtX6_word lkX2_72 oC6B hl.1 rfl rfl (Nat.le_of_ble_eq_true rfl) ⟨Nat.le_of_ble_eq_true rfl, Nat.le_of_ble_eq_true rfl⟩ dX2_bindIn_34 ⟨Nat.zero_le _, Nat.zero_le _⟩ (fun H locs hw => ?_)
  refine lv_istore (lv' := [(4, .int r34), (0, .ref (oc 2)), (1, .int l1), (2, .int l2)]) hx hb dX2_bindIn_37 hl (by decide) rfl (fun ls hl => ?_)
  refine lv_goto (tgt := 68) hx hb dX2_bindIn_39 (by decide) ?_
  exact wX2_bindIn_J68 C _ _ _ _ _ _ _ _ _ _ _ _ _ hm _ _ _ (lv_sub hl [1, 3, 0] rfl) hw
def mX2_bindIn (a1 : Int32) (a2 : Int32) (a3 : Int32) (iv : mI) (ar : mA) (la : mL) (pA : mA) (pB : mA) : Option (Int32 × mI × mA × mL × mA × mA) := obc (mX6_wordB a1 iv ar la pA pB) (fun r8 iv8 ar8 la8 pA8 pB8 => if r8 = 21 then mX2_bindIn_J27 a1 a2 iv8 ar8 la8 pA8 pB8 else if r8 = 33 then mX2_bindIn_J27 a1 a2 iv8 ar8 la8 pA8 pB8 else if r8 = 32 then if a3 ≤ 0 then mX2_bindIn_J68 a2 (-1) iv8 ar8 la8 pA8 pB8 else obc (mX6_labelOfB a2 iv8 ar8 la8 pA8 pB8) (fun r60 iv60 ar60 la60 pA60 pB60 => obc (mX2_typeOfCase a1 r60 iv60 ar60 la60 pA60 pB60) (fun r63 iv63 ar63 la63 pA63 pB63 => mX2_bindIn_J68 a2 r63 iv63 ar63 la63 pA63 pB63)) else mX2_bindIn_J68 a2 (-1) iv8 ar8 la8 pA8 pB8)
set_option maxRecDepth 100000 in
set_option maxHeartbeats 4000000 in
theorem kX2_bindIn {a1 a2 a3 : Int32} {iv ivz : mI} {ar arz : mA} {la laz : mL} {pA pAz : mA} {pB pBz : mA} {rz : Int32} (hm : mX2_bindIn a1 a2 a3 iv ar la pA pB = some (rz, ivz, arz, laz, pAz, pBz)) : Ct l D cI cJ yX2_bindIn cX2_bindIn 6 (some .int) 3 70 [.ref (oc 2), .int a1, .int a2, .int a3] (wC cI cJ oc ac pa pb aa ab xp xs tp pb mp iv ar la pA pB) (wC cI cJ oc ac pa pb aa ab xp xs tp pb mp ivz arz laz pAz pBz) rz := by
  intro sz
  refine ct_of (by decide) (Nat.le_of_ble_eq_true rfl) ?_
  intro p e s m args below meth c C hw ls hl
  have hl : lv_has ls 6 [(0, .ref (oc 2)), (1, .int a1), (2, .int a2), (3, .int a3)] := hl
  have hx := C.1.1
  have hb := C.1.2.1
  unfold mX2_bindIn at hm
  refine lv_iconst (v := (-1)) hx hb dX2_bindIn_0 ci_m1 ?_
  refine lv_istore (lv' := [(4, .int (-1)), (0, .ref (oc 2)), (1, .int a1), (2, .int a2), (3, .int a3)]) hx hb dX2_bindIn_1 hl (by decide) rfl (fun ls hl => ?_)
  refine lv_aload_n hx hb dX2_bindIn_3 rfl (lv_at hl 1 rfl) ?_
  refine g_get C hw gC2_3 dX2_bindIn_4 ?_
  refine lv_iload_n hx hb dX2_bindIn_7 rfl (lv_at hl 2 rfl) ?_
  obtain ⟨r8, iv8, ar8, la8, pA8, pB8, hc8, hm⟩ := obc_some hm
  refine g_calli (As := [.int a1]) (rest := []) C hw (kX6_wordB hc8) mtX6_word lkX2_72 oC6B hl.1 rfl rfl (Nat.le_of_ble_eq_true rfl) ⟨Nat.le_of_ble_eq_true rfl, Nat.le_of_ble_eq_true rfl⟩ dX2_bindIn_8 ⟨Nat.zero_le _, Nat.zero_le _⟩ (fun H locs hw => ?_)
  refine lv_istore (lv' := [(5, .int r8), (4, .int (-1)), (0, .ref (oc 2)), (1, .int a1), (2, .int a2), (3, .int a3)]) hx hb dX2_bindIn_11 hl (by decide) rfl (fun ls hl => ?_)
  refine lv_iload hx hb dX2_bindIn_13 (lv_at hl 0 rfl) ?_
  refine lv_bipush (v := 21) hx hb dX2_bindIn_15 cb_21 ?_
  refine lv_icmp_eq (tgt := 27) hx hb dX2_bindIn_17 (by decide) (fun hc => ?_) (fun hc => ?_)
  · have hm := it_t hc hm
    exact wX2_bindIn_J27 C _ _ _ _ _ _ _ _ _ _ _ _ _ hm _ _ _ (lv_sub hl [2, 3, 4] rfl) hw
  · have hm := it_f hc hm
    refine lv_iload hx hb dX2_bindIn_20 (lv_at hl 0 rfl) ?_
    refine lv_bipush (v := 33) hx hb dX2_bindIn_22 cb_33 ?_
    refine lv_icmp_ne (tgt := 42) hx hb dX2_bindIn_24 (by decide) (fun hc => ?_) (fun hc => ?_)
    · have hm := it_f hc hm
      refine lv_iload hx hb dX2_bindIn_42 (lv_at hl 0 rfl) ?_
      refine lv_bipush (v := 32) hx hb dX2_bindIn_44 cb_32 ?_
      refine lv_icmp_ne (tgt := 68) hx hb dX2_bindIn_46 (by decide) (fun hc => ?_) (fun hc => ?_)
      · have hm := it_f hc hm
        exact wX2_bindIn_J68 C _ _ _ _ _ _ _ _ _ _ _ _ _ hm _ _ _ (lv_sub hl [2, 4, 1] rfl) hw
      · have hm := it_t hc hm
        refine lv_iload_n hx hb dX2_bindIn_49 rfl (lv_at hl 5 rfl) ?_
        refine lv_if_le (tgt := 68) hx hb dX2_bindIn_50 (by decide) (fun hc => ?_) (fun hc => ?_)
        · have hm := it_t hc hm
          exact wX2_bindIn_J68 C _ _ _ _ _ _ _ _ _ _ _ _ _ hm _ _ _ (lv_sub hl [2, 4, 1] rfl) hw
        · have hm := it_f hc hm
          refine lv_aload_n hx hb dX2_bindIn_53 rfl (lv_at hl 2 rfl) ?_
          refine lv_iload_n hx hb dX2_bindIn_54 rfl (lv_at hl 3 rfl) ?_
          refine lv_aload_n hx hb dX2_bindIn_55 rfl (lv_at hl 2 rfl) ?_
          refine g_get C hw gC2_3 dX2_bindIn_56 ?_
          refine lv_iload_n hx hb dX2_bindIn_59 rfl (lv_at hl 4 rfl) ?_
          obtain ⟨r60, iv60, ar60, la60, pA60, pB60, hc60, hm⟩ := obc_some hm
          refine g_calli (As := [.int a2]) (rest := [.int a1, .ref (oc 2)]) C hw (kX6_labelOfB hc60) mtX6_labelOf lkX2_75 oC6B hl.1 rfl rfl (Nat.le_of_ble_eq_true rfl) ⟨Nat.le_of_ble_eq_true rfl, Nat.le_of_ble_eq_true rfl⟩ dX2_bindIn_60 ⟨Nat.zero_le _, Nat.zero_le _⟩ (fun H locs hw => ?_)
          obtain ⟨r63, iv63, ar63, la63, pA63, pB63, hc63, hm⟩ := obc_some hm
          refine g_calli (As := [.int a1, .int r60]) (rest := []) C hw (kX2_typeOfCase hc63) mtX2_typeOfCase lkX2_78 oC2 hl.1 rfl rfl (Nat.le_of_ble_eq_true rfl) ⟨Nat.le_of_ble_eq_true rfl, Nat.le_of_ble_eq_true rfl⟩ dX2_bindIn_63 ⟨Nat.zero_le _, Nat.zero_le _⟩ (fun H locs hw => ?_)
          refine lv_istore (lv' := [(4, .int r63), (5, .int r8), (0, .ref (oc 2)), (1, .int a1), (2, .int a2), (3, .int a3)]) hx hb dX2_bindIn_66 hl (by decide) rfl (fun ls hl => ?_)
          exact wX2_bindIn_J68 C _ _ _ _ _ _ _ _ _ _ _ _ _ hm _ _ _ (lv_sub hl [2, 4, 0] rfl) hw
    · have hm := it_t hc hm
      exact wX2_bindIn_J27 C _ _ _ _ _ _ _ _ _ _ _ _ _ hm _ _ _ (lv_sub hl [2, 3, 4] rfl) hw
def mX2_check_J141 (k24 : Int32 → Int32 → mI → mA → mL → mA → mA → Option (Int32 × mI × mA × mL × mA × mA)) (l2 : Int32) (l3 : Int32) (iv : mI) (ar : mA) (la : mL) (pA : mA) (pB : mA) : Option (Int32 × mI × mA × mL × mA × mA) := if l2 = (-15) then some (l2, iv, ar, la, pA, pB) else if l2 = (-3) then some (l2, iv, ar, la, pA, pB) else k24 l2 (l3 + 1) iv ar la pA pB
set_option maxRecDepth 100000 in
set_option maxHeartbeats 4000000 in
theorem wX2_check_J141 {k24 : Int32 → Int32 → mI → mA → mL → mA → mA → Option (Int32 × mI × mA × mL × mA × mA)} (C : mCx p s m args meth c RX2 cX2_check 7 (some .int) D cI cJ A) (hk24 : ∀ (l2 : Int32) (l3 : Int32) (iv : mI) (ar : mA) (la : mL) (pA : mA) (pB : mA) (rz : Int32) (ivz : mI) (arz : mA) (laz : mL) (pAz : mA) (pBz : mA), k24 l2 l3 iv ar la pA pB = some (rz, ivz, arz, laz, pAz, pBz) → ∀ (H : Heap) (locs : List Loc) (ls : Array Slot), lv_has ls 7 [(0, .ref (oc 2)), (2, .int l2), (3, .int l3)] → inW D A s (wC cI cJ oc ac pa pb aa ab xp xs tp pb mp iv ar la pA pB) H locs → W p l e (rmO 5 131) s m args below meth c H locs 0 0 (MQ below (ctQ D cI cJ (wC cI cJ oc ac pa pb aa ab xp xs tp pb mp ivz arz laz pAz pBz) A rz) args s 0 0 A) (F0 m 24 ls [])) : ∀ (l2 : Int32) (l3 : Int32) (iv : mI) (ar : mA) (la : mL) (pA : mA) (pB : mA) (rz : Int32) (ivz : mI) (arz : mA) (laz : mL) (pAz : mA) (pBz : mA), mX2_check_J141 k24 l2 l3 iv ar la pA pB = some (rz, ivz, arz, laz, pAz, pBz) → ∀ (H : Heap) (locs : List Loc) (ls : Array Slot), lv_has ls 7 [(0, .ref (oc 2)), (2, .int l2), (3, .int l3)] → inW D A s (wC cI cJ oc ac pa pb aa ab xp xs tp pb mp iv ar la pA pB) H locs → W p l e (rmO 5 131) s m args below meth c H locs 0 0 (MQ below (ctQ D cI cJ (wC cI cJ oc ac pa pb aa ab xp xs tp pb mp ivz arz laz pAz pBz) A rz) args s 0 0 A) (F0 m 141 ls []) := by
  intro l2 l3 iv ar la pA pB rz ivz arz laz pAz pBz hm H locs ls hl hw
  have hx := C.1.1
  have hb := C.1.2.1
  unfold mX2_check_J141 at hm
  refine lv_iload_n hx hb dX2_check_141 rfl (lv_at hl 1 rfl) ?_
  refine lv_bipush (v := (-15)) hx hb dX2_check_142 cb_m15 ?_
  refine lv_icmp_eq (tgt := 153) hx hb dX2_check_144 (by decide) (fun hc => ?_) (fun hc => ?_)
  · have hm := it_t hc hm
    refine lv_iload_n hx hb dX2_check_153 rfl (lv_at hl 1 rfl) ?_
    cases hm
    exact g_iret C hw dX2_check_154
  · have hm := it_f hc hm
    refine lv_iload_n hx hb dX2_check_147 rfl (lv_at hl 1 rfl) ?_
    refine lv_bipush (v := (-3)) hx hb dX2_check_148 cb_m3 ?_
    refine lv_icmp_ne (tgt := 155) hx hb dX2_check_150 (by decide) (fun hc => ?_) (fun hc => ?_)
    · have hm := it_f hc hm
      refine lv_iinc (v := (l3 + 1)) (lv' := [(3, .int (l3 + 1)), (0, .ref (oc 2)), (2, .int l2)]) hx hb dX2_check_155 hl (k := 2) rfl (ii_ ci_1) (by decide) rfl (fun ls hl => ?_)
      refine lv_goto (tgt := 24) hx hb dX2_check_158 (by decide) ?_
      exact hk24 _ _ _ _ _ _ _ _ _ _ _ _ _ hm _ _ _ (lv_sub hl [1, 2, 0] rfl) hw
    · have hm := it_t hc hm
      refine lv_iload_n hx hb dX2_check_153 rfl (lv_at hl 1 rfl) ?_
      cases hm
      exact g_iret C hw dX2_check_154
def mX2_check_L24 : Nat → Int32 → Int32 → mI → mA → mL → mA → mA → Option (Int32 × mI × mA × mL × mA × mA)
  | 0, _, _, _, _, _, _, _ => none
  | n + 1, l2, l3, iv, ar, la, pA, pB => if (iv 208) ≤ 0 then some (l2, iv, ar, la, pA, pB) else if 400 < l3 then some (l2, iv, ar, la, pA, pB) else if ((iv 208) - 1) < 0 ∨ 200 ≤ ((iv 208) - 1).toNatClampNeg then none else if ((iv 208) - 1) < 0 ∨ 200 ≤ ((iv 208) - 1).toNatClampNeg then none else obc (mX6_kidInTurnB (ar 206 ((iv 208) - 1).toNatClampNeg) (ar 207 ((iv 208) - 1).toNatClampNeg) iv ar la pA pB) (fun r68 iv68 ar68 la68 pA68 pB68 => if r68 = (-1) then obc (mX2_typeOf (ar 206 ((iv 208) - 1).toNatClampNeg) (va_up iv68 208 ((iv 208) - 1)) ar68 la68 pA68 pB68) (fun r91 iv91 ar91 la91 pA91 pB91 => obc (mX2_joinBranches (ar 206 ((iv 208) - 1).toNatClampNeg) r91 iv91 ar91 la91 pA91 pB91) (fun r94 iv94 ar94 la94 pA94 pB94 => obc (mX2_setType (ar 206 ((iv 208) - 1).toNatClampNeg) r94 iv94 ar94 la94 pA94 pB94) (fun r102 iv102 ar102 la102 pA102 pB102 => mX2_check_J141 (mX2_check_L24 n) r94 l3 iv102 ar102 la102 pA102 pB102))) else if ((iv 208) - 1) < 0 ∨ 200 ≤ ((iv 208) - 1).toNatClampNeg then none else obc (mX2_bindIn (ar 206 ((iv 208) - 1).toNatClampNeg) r68 (ar68 207 ((iv 208) - 1).toNatClampNeg) iv68 ar68 la68 pA68 pB68) (fun r120 iv120 ar120 la120 pA120 pB120 => if ((iv 208) - 1) < 0 ∨ 200 ≤ ((iv 208) - 1).toNatClampNeg then none else if ((iv 208) - 1) < 0 ∨ 200 ≤ ((iv 208) - 1).toNatClampNeg then none else obc (mX2_push r68 iv120 (au ar120 207 ((iv 208) - 1).toNatClampNeg ((ar120 207 ((iv 208) - 1).toNatClampNeg) + 1)) la120 pA120 pB120) (fun r138 iv138 ar138 la138 pA138 pB138 => mX2_check_J141 (mX2_check_L24 n) r120 l3 iv138 ar138 la138 pA138 pB138)))
set_option maxRecDepth 100000 in
set_option maxHeartbeats 4000000 in
theorem wX2_check_L24 (C : mCx p s m args meth c RX2 cX2_check 7 (some .int) D cI cJ A) (n : Nat) : ∀ (l2 : Int32) (l3 : Int32) (iv : mI) (ar : mA) (la : mL) (pA : mA) (pB : mA) (rz : Int32) (ivz : mI) (arz : mA) (laz : mL) (pAz : mA) (pBz : mA), mX2_check_L24 n l2 l3 iv ar la pA pB = some (rz, ivz, arz, laz, pAz, pBz) → ∀ (H : Heap) (locs : List Loc) (ls : Array Slot), lv_has ls 7 [(0, .ref (oc 2)), (2, .int l2), (3, .int l3)] → inW D A s (wC cI cJ oc ac pa pb aa ab xp xs tp pb mp iv ar la pA pB) H locs → W p l e (rmO 5 131) s m args below meth c H locs 0 0 (MQ below (ctQ D cI cJ (wC cI cJ oc ac pa pb aa ab xp xs tp pb mp ivz arz laz pAz pBz) A rz) args s 0 0 A) (F0 m 24 ls []) := by
  induction n with
  | zero =>
    intro l2 l3 iv ar la pA pB rz ivz arz laz pAz pBz hm H locs ls hl hw
    have hm : (none : Option (Int32 × mI × mA × mL × mA × mA)) = some _ := hm
    cases hm
  | succ n ih =>
    intro l2 l3 iv ar la pA pB rz ivz arz laz pAz pBz hm H locs ls hl hw
    have hx := C.1.1
    have hb := C.1.2.1
    unfold mX2_check_L24 at hm
    refine lv_aload_n hx hb dX2_check_24 rfl (lv_at hl 0 rfl) ?_
    refine g_get C hw gC2_8 dX2_check_25 ?_
    refine lv_if_le (tgt := 161) hx hb dX2_check_28 (by decide) (fun hc => ?_) (fun hc => ?_)
    · have hm := it_t hc hm
      refine lv_iload_n hx hb dX2_check_161 rfl (lv_at hl 1 rfl) ?_
      cases hm
      exact g_iret C hw dX2_check_162
    · have hm := it_f hc hm
      refine lv_iload_n hx hb dX2_check_31 rfl (lv_at hl 2 rfl) ?_
      refine lv_sipush (v := 400) hx hb dX2_check_32 cs_400 ?_
      refine lv_icmp_gt (tgt := 161) hx hb dX2_check_35 (by decide) (fun hc => ?_) (fun hc => ?_)
      · have hm := it_t hc hm
        refine lv_iload_n hx hb dX2_check_161 rfl (lv_at hl 1 rfl) ?_
        cases hm
        exact g_iret C hw dX2_check_162
      · have hm := it_f hc hm
        refine lv_aload_n hx hb dX2_check_38 rfl (lv_at hl 0 rfl) ?_
        refine g_get C hw gC2_8 dX2_check_39 ?_
        refine lv_iconst (v := 1) hx hb dX2_check_42 ci_1 ?_
        refine lv_isub hx hb dX2_check_43 ?_
        refine lv_istore (lv' := [(4, .int ((iv 208) - 1)), (0, .ref (oc 2)), (2, .int l2), (3, .int l3)]) hx hb dX2_check_44 hl (by decide) rfl (fun ls hl => ?_)
        refine lv_aload_n hx hb dX2_check_46 rfl (lv_at hl 1 rfl) ?_
        refine g_get C hw gC2_6 dX2_check_47 ?_
        refine lv_iload hx hb dX2_check_50 (lv_at hl 0 rfl) ?_
        obtain ⟨hi, hm⟩ := it_a hm
        refine g_ald C hw aC2_6 hi dX2_check_52 ?_
        refine lv_istore (lv' := [(5, .int (ar 206 ((iv 208) - 1).toNatClampNeg)), (4, .int ((iv 208) - 1)), (0, .ref (oc 2)), (2, .int l2), (3, .int l3)]) hx hb dX2_check_53 hl (by decide) rfl (fun ls hl => ?_)
        refine lv_aload_n hx hb dX2_check_55 rfl (lv_at hl 2 rfl) ?_
        refine g_get C hw gC2_3 dX2_check_56 ?_
        refine lv_iload hx hb dX2_check_59 (lv_at hl 0 rfl) ?_
        refine lv_aload_n hx hb dX2_check_61 rfl (lv_at hl 2 rfl) ?_
        refine g_get C hw gC2_7 dX2_check_62 ?_
        refine lv_iload hx hb dX2_check_65 (lv_at hl 1 rfl) ?_
        obtain ⟨hi, hm⟩ := it_a hm
        refine g_ald C hw aC2_7 hi dX2_check_67 ?_
        obtain ⟨r68, iv68, ar68, la68, pA68, pB68, hc68, hm⟩ := obc_some hm
        refine g_calli (As := [.int (ar 206 ((iv 208) - 1).toNatClampNeg), .int (ar 207 ((iv 208) - 1).toNatClampNeg)]) (rest := []) C hw (kX6_kidInTurnB hc68) mtX6_kidInTurn lkX2_51 oC6B hl.1 rfl rfl (Nat.le_of_ble_eq_true rfl) ⟨Nat.le_of_ble_eq_true rfl, Nat.le_of_ble_eq_true rfl⟩ dX2_check_68 ⟨Nat.zero_le _, Nat.zero_le _⟩ (fun H locs hw => ?_)
        refine lv_istore (lv' := [(6, .int r68), (5, .int (ar 206 ((iv 208) - 1).toNatClampNeg)), (4, .int ((iv 208) - 1)), (0, .ref (oc 2)), (2, .int l2), (3, .int l3)]) hx hb dX2_check_71 hl (by decide) rfl (fun ls hl => ?_)
        refine lv_iload hx hb dX2_check_73 (lv_at hl 0 rfl) ?_
        refine lv_iconst (v := (-1)) hx hb dX2_check_75 ci_m1 ?_
        refine lv_icmp_ne (tgt := 108) hx hb dX2_check_76 (by decide) (fun hc => ?_) (fun hc => ?_)
        · have hm := it_f hc hm
          refine lv_aload_n hx hb dX2_check_108 rfl (lv_at hl 3 rfl) ?_
          refine lv_iload hx hb dX2_check_109 (lv_at hl 1 rfl) ?_
          refine lv_iload hx hb dX2_check_111 (lv_at hl 0 rfl) ?_
          refine lv_aload_n hx hb dX2_check_113 rfl (lv_at hl 3 rfl) ?_
          refine g_get C hw gC2_7 dX2_check_114 ?_
          refine lv_iload hx hb dX2_check_117 (lv_at hl 2 rfl) ?_
          obtain ⟨hi, hm⟩ := it_a hm
          refine g_ald C hw aC2_7 hi dX2_check_119 ?_
          obtain ⟨r120, iv120, ar120, la120, pA120, pB120, hc120, hm⟩ := obc_some hm
          refine g_calli (As := [.int (ar 206 ((iv 208) - 1).toNatClampNeg), .int r68, .int (ar68 207 ((iv 208) - 1).toNatClampNeg)]) (rest := []) C hw (kX2_bindIn hc120) mtX2_bindIn lkX2_68 oC2 hl.1 rfl rfl (Nat.le_of_ble_eq_true rfl) ⟨Nat.le_of_ble_eq_true rfl, Nat.le_of_ble_eq_true rfl⟩ dX2_check_120 ⟨Nat.zero_le _, Nat.zero_le _⟩ (fun H locs hw => ?_)
          refine lv_istore_n (lv' := [(2, .int r120), (6, .int r68), (5, .int (ar 206 ((iv 208) - 1).toNatClampNeg)), (4, .int ((iv 208) - 1)), (0, .ref (oc 2)), (3, .int l3)]) hx hb dX2_check_123 rfl hl (by decide) rfl (fun ls hl => ?_)
          refine lv_aload_n hx hb dX2_check_124 rfl (lv_at hl 4 rfl) ?_
          refine g_get C hw gC2_7 dX2_check_125 ?_
          refine lv_iload hx hb dX2_check_128 (lv_at hl 3 rfl) ?_
          refine lv_dup2_11 hx hb dX2_check_130 rfl rfl ?_
          obtain ⟨hi, hm⟩ := it_a hm
          refine g_ald C hw aC2_7 hi dX2_check_131 ?_
          refine lv_iconst (v := 1) hx hb dX2_check_132 ci_1 ?_
          refine lv_iadd hx hb dX2_check_133 ?_
          obtain ⟨hi, hm⟩ := it_a hm
          refine g_ast C hw sC2_7 hi dX2_check_134 (fun H locs hw => ?_)
          refine lv_aload_n hx hb dX2_check_135 rfl (lv_at hl 4 rfl) ?_
          refine lv_iload hx hb dX2_check_136 (lv_at hl 1 rfl) ?_
          obtain ⟨r138, iv138, ar138, la138, pA138, pB138, hc138, hm⟩ := obc_some hm
          refine g_callv (As := [.int r68]) (rest := []) C hw (kX2_push hc138) mtX2_push lkX2_47 oC2 hl.1 rfl rfl (Nat.le_of_ble_eq_true rfl) ⟨Nat.le_of_ble_eq_true rfl, Nat.le_of_ble_eq_true rfl⟩ dX2_check_138 ⟨Nat.zero_le _, Nat.zero_le _⟩ (fun H locs hw => ?_)
          exact wX2_check_J141 C ih _ _ _ _ _ _ _ _ _ _ _ _ _ hm _ _ _ (lv_sub hl [4, 0, 5] rfl) hw
        · have hm := it_t hc hm
          refine lv_aload_n hx hb dX2_check_79 rfl (lv_at hl 3 rfl) ?_
          refine lv_iload hx hb dX2_check_80 (lv_at hl 2 rfl) ?_
          refine g_put C hw pC2_8 dX2_check_82 (fun H locs hw => ?_)
          refine lv_aload_n hx hb dX2_check_85 rfl (lv_at hl 3 rfl) ?_
          refine lv_iload hx hb dX2_check_86 (lv_at hl 1 rfl) ?_
          refine lv_aload_n hx hb dX2_check_88 rfl (lv_at hl 3 rfl) ?_
          refine lv_iload hx hb dX2_check_89 (lv_at hl 1 rfl) ?_
          obtain ⟨r91, iv91, ar91, la91, pA91, pB91, hc91, hm⟩ := obc_some hm
          refine g_calli (As := [.int (ar 206 ((iv 208) - 1).toNatClampNeg)]) (rest := [.int (ar 206 ((iv 208) - 1).toNatClampNeg), .ref (oc 2)]) C hw (kX2_typeOf hc91) mtX2_typeOf lkX2_57 oC2 hl.1 rfl rfl (Nat.le_of_ble_eq_true rfl) ⟨Nat.le_of_ble_eq_true rfl, Nat.le_of_ble_eq_true rfl⟩ dX2_check_91 ⟨Nat.zero_le _, Nat.zero_le _⟩ (fun H locs hw => ?_)
          obtain ⟨r94, iv94, ar94, la94, pA94, pB94, hc94, hm⟩ := obc_some hm
          refine g_calli (As := [.int (ar 206 ((iv 208) - 1).toNatClampNeg), .int r91]) (rest := []) C hw (kX2_joinBranches hc94) mtX2_joinBranches lkX2_61 oC2 hl.1 rfl rfl (Nat.le_of_ble_eq_true rfl) ⟨Nat.le_of_ble_eq_true rfl, Nat.le_of_ble_eq_true rfl⟩ dX2_check_94 ⟨Nat.zero_le _, Nat.zero_le _⟩ (fun H locs hw => ?_)
          refine lv_istore_n (lv' := [(2, .int r94), (6, .int r68), (5, .int (ar 206 ((iv 208) - 1).toNatClampNeg)), (4, .int ((iv 208) - 1)), (0, .ref (oc 2)), (3, .int l3)]) hx hb dX2_check_97 rfl hl (by decide) rfl (fun ls hl => ?_)
          refine lv_aload_n hx hb dX2_check_98 rfl (lv_at hl 4 rfl) ?_
          refine lv_iload hx hb dX2_check_99 (lv_at hl 2 rfl) ?_
          refine lv_iload_n hx hb dX2_check_101 rfl (lv_at hl 0 rfl) ?_
          obtain ⟨r102, iv102, ar102, la102, pA102, pB102, hc102, hm⟩ := obc_some hm
          refine g_callv (As := [.int (ar 206 ((iv 208) - 1).toNatClampNeg), .int r94]) (rest := []) C hw (kX2_setType hc102) mtX2_setType lkX2_64 oC2 hl.1 rfl rfl (Nat.le_of_ble_eq_true rfl) ⟨Nat.le_of_ble_eq_true rfl, Nat.le_of_ble_eq_true rfl⟩ dX2_check_102 ⟨Nat.zero_le _, Nat.zero_le _⟩ (fun H locs hw => ?_)
          refine lv_goto (tgt := 141) hx hb dX2_check_105 (by decide) ?_
          exact wX2_check_J141 C ih _ _ _ _ _ _ _ _ _ _ _ _ _ hm _ _ _ (lv_sub hl [4, 0, 5] rfl) hw
def mX2_check  (iv : mI) (ar : mA) (la : mL) (pA : mA) (pB : mA) : Option (Int32 × mI × mA × mL × mA × mA) := obc (mX2_push 0 (va_up (va_up iv 209 (-1)) 208 0) ar la pA pB) (fun r17 iv17 ar17 la17 pA17 pB17 => mX2_check_L24 bigF (-1) 0 iv17 ar17 la17 pA17 pB17)
set_option maxRecDepth 100000 in
set_option maxHeartbeats 4000000 in
theorem kX2_check {iv ivz : mI} {ar arz : mA} {la laz : mL} {pA pAz : mA} {pB pBz : mA} {rz : Int32} (hm : mX2_check iv ar la pA pB = some (rz, ivz, arz, laz, pAz, pBz)) : Ct l D cI cJ yX2_check cX2_check 7 (some .int) 5 131 [.ref (oc 2), .ref pb] (wC cI cJ oc ac pa pb aa ab xp xs tp cp mp iv ar la pA pB) (wC cI cJ oc ac pa pb aa ab xp xs tp pb mp ivz arz laz pAz pBz) rz := by
  intro sz
  refine ct_of (by decide) (Nat.le_of_ble_eq_true rfl) ?_
  intro p e s m args below meth c C hw ls hl
  have hl : lv_has ls 7 [(0, .ref (oc 2)), (1, .ref pb)] := hl
  have hx := C.1.1
  have hb := C.1.2.1
  unfold mX2_check at hm
  refine lv_aload_n hx hb dX2_check_0 rfl (lv_at hl 0 rfl) ?_
  refine lv_aload_n hx hb dX2_check_1 rfl (lv_at hl 1 rfl) ?_
  refine g_put C hw pC2_3 dX2_check_2 (fun H locs hw => ?_)
  refine lv_aload_n hx hb dX2_check_5 rfl (lv_at hl 0 rfl) ?_
  refine lv_iconst (v := (-1)) hx hb dX2_check_6 ci_m1 ?_
  refine g_put C hw pC2_9 dX2_check_7 (fun H locs hw => ?_)
  refine lv_aload_n hx hb dX2_check_10 rfl (lv_at hl 0 rfl) ?_
  refine lv_iconst (v := 0) hx hb dX2_check_11 ci_0 ?_
  refine g_put C hw pC2_8 dX2_check_12 (fun H locs hw => ?_)
  refine lv_aload_n hx hb dX2_check_15 rfl (lv_at hl 0 rfl) ?_
  refine lv_iconst (v := 0) hx hb dX2_check_16 ci_0 ?_
  obtain ⟨r17, iv17, ar17, la17, pA17, pB17, hc17, hm⟩ := obc_some hm
  refine g_callv (As := [.int 0]) (rest := []) C hw (kX2_push hc17) mtX2_push lkX2_47 oC2 hl.1 rfl rfl (Nat.le_of_ble_eq_true rfl) ⟨Nat.le_of_ble_eq_true rfl, Nat.le_of_ble_eq_true rfl⟩ dX2_check_17 ⟨Nat.zero_le _, Nat.zero_le _⟩ (fun H locs hw => ?_)
  refine lv_iconst (v := (-1)) hx hb dX2_check_20 ci_m1 ?_
  refine lv_istore_n (lv' := [(2, .int (-1)), (0, .ref (oc 2)), (1, .ref pb)]) hx hb dX2_check_21 rfl hl (by decide) rfl (fun ls hl => ?_)
  refine lv_iconst (v := 0) hx hb dX2_check_22 ci_0 ?_
  refine lv_istore_n (lv' := [(3, .int 0), (2, .int (-1)), (0, .ref (oc 2)), (1, .ref pb)]) hx hb dX2_check_23 rfl hl (by decide) rfl (fun ls hl => ?_)
  exact wX2_check_L24 C bigF _ _ _ _ _ _ _ _ _ _ _ _ _ hm _ _ _ (lv_sub hl [2, 1, 0] rfl) hw
def mX2_misfitPlace  (iv : mI) (ar : mA) (la : mL) (pA : mA) (pB : mA) : Option (Int32 × mI × mA × mL × mA × mA) := some ((iv 209), iv, ar, la, pA, pB)
set_option maxRecDepth 100000 in
set_option maxHeartbeats 4000000 in
theorem kX2_misfitPlace {iv ivz : mI} {ar arz : mA} {la laz : mL} {pA pAz : mA} {pB pBz : mA} {rz : Int32} (hm : mX2_misfitPlace iv ar la pA pB = some (rz, ivz, arz, laz, pAz, pBz)) : Ct l D cI cJ yX2_misfitPlace cX2_misfitPlace 1 (some .int) 0 0 [.ref (oc 2)] (wC cI cJ oc ac pa pb aa ab xp xs tp pb mp iv ar la pA pB) (wC cI cJ oc ac pa pb aa ab xp xs tp pb mp ivz arz laz pAz pBz) rz := by
  intro sz
  refine ct_of (by decide) (Nat.le_of_ble_eq_true rfl) ?_
  intro p e s m args below meth c C hw ls hl
  have hl : lv_has ls 1 [(0, .ref (oc 2))] := hl
  have hx := C.1.1
  have hb := C.1.2.1
  unfold mX2_misfitPlace at hm
  refine lv_aload_n hx hb dX2_misfitPlace_0 rfl (lv_at hl 0 rfl) ?_
  refine g_get C hw gC2_9 dX2_misfitPlace_1 ?_
  cases hm
  exact g_iret C hw dX2_misfitPlace_4
/-- how the world of X11_term ends: by qz -/
def wEX11_term (cI cJ : ClassId) (oc ac : Nat → Nat) (pa pb : Nat) (aa ab : Nat → Nat) (xp xs tp cp mp : Nat) (iv : mI) (ar : mA) (la : mL) (pA pB : mA) (q : Nat) : va_W := match q with
  | 0 => (wC cI cJ oc ac pa pb aa ab pa pb pb cp mp iv ar la pA pB)
  | 1 => (wC cI cJ oc ac pa pb aa ab pb pa pb cp mp iv ar la pA pB)
  | 2 => (wC cI cJ oc ac pa pb aa ab pa pb pb pb mp iv ar la pA pB)
  | _ => (wC cI cJ oc ac pa pb aa ab pb pa pb pb mp iv ar la pA pB)
def mX11_term  (iv : mI) (ar : mA) (la : mL) (pA : mA) (pB : mA) : Option (Int32 × mI × mA × mL × mA × mA × Nat) := obc (mX3_size iv ar la pA pB) (fun r4 iv4 ar4 la4 pA4 pB4 => obc (mX8_rewind iv4 ar4 la4 pA4 pB4) (fun r12 iv12 ar12 la12 pA12 pB12 => obc (mX7_read iv12 ar12 la12 pA12 pB12) (fun r23 iv23 ar23 la23 pA23 pB23 => obc (mX8_faultPlace iv23 ar23 la23 pA23 pB23) (fun r32 iv32 ar32 la32 pA32 pB32 => obc (mX8_fault (va_up iv32 1111 r32) ar32 la32 pA32 pB32) (fun r42 iv42 ar42 la42 pA42 pB42 => obc (mX8_empty iv42 ar42 la42 pA42 pB42) (fun r50 iv50 ar50 la50 pA50 pB50 => if r23 = 0 then if r23 = 0 then obc (mX3_cutTo r4 iv50 ar50 la50 pA50 pB50) (fun r103 iv103 ar103 la103 pA103 pB103 => some (r42, iv103, ar103, la103, pA103, pB103, 0)) else if 0 ≤ r42 then some (r42, va_up iv50 1110 1, ar50, la50, pA50, pB50, 1) else obc (mX3_cutTo r4 iv50 ar50 la50 pA50 pB50) (fun r103 iv103 ar103 la103 pA103 pB103 => some (r42, iv103, ar103, la103, pA103, pB103, 0)) else obc (mX2_check iv50 ar50 la50 pA50 pB50) (fun r65 iv65 ar65 la65 pA65 pB65 => if r65 = (-15) then obc (mX2_misfitPlace iv65 ar65 la65 pA65 pB65) (fun r80 iv80 ar80 la80 pA80 pB80 => if r23 = 0 then obc (mX3_cutTo r4 (va_up iv80 1111 r80) ar80 la80 pA80 pB80) (fun r103 iv103 ar103 la103 pA103 pB103 => some (r65, iv103, ar103, la103, pA103, pB103, 2)) else if 0 ≤ r65 then some (r65, va_up (va_up iv80 1111 r80) 1110 1, ar80, la80, pA80, pB80, 3) else obc (mX3_cutTo r4 (va_up iv80 1111 r80) ar80 la80 pA80 pB80) (fun r103 iv103 ar103 la103 pA103 pB103 => some (r65, iv103, ar103, la103, pA103, pB103, 2))) else if r23 = 0 then obc (mX3_cutTo r4 (va_up iv65 1111 (-1)) ar65 la65 pA65 pB65) (fun r103 iv103 ar103 la103 pA103 pB103 => some (r65, iv103, ar103, la103, pA103, pB103, 2)) else if 0 ≤ r65 then some (r65, va_up (va_up iv65 1111 (-1)) 1110 1, ar65, la65, pA65, pB65, 3) else obc (mX3_cutTo r4 (va_up iv65 1111 (-1)) ar65 la65 pA65 pB65) (fun r103 iv103 ar103 la103 pA103 pB103 => some (r65, iv103, ar103, la103, pA103, pB103, 2)))))))))
set_option maxRecDepth 100000 in
set_option maxHeartbeats 4000000 in
theorem kX11_term {iv ivz : mI} {ar arz : mA} {la laz : mL} {pA pAz : mA} {pB pBz : mA} {qz : Nat} {rz : Int32} (hm : mX11_term iv ar la pA pB = some (rz, ivz, arz, laz, pAz, pBz, qz)) : Ct l D cI cJ yX11_term cX11_term 5 (some .int) 6 157 [.ref (oc 11)] (wC cI cJ oc ac pa pb aa ab pa pb tp cp mp iv ar la pA pB) (wEX11_term cI cJ oc ac pa pb aa ab pa pb tp cp mp ivz arz laz pAz pBz qz) rz := by
  intro sz
  refine ct_of (by decide) (Nat.le_of_ble_eq_true rfl) ?_
  intro p e s m args below meth c C hw ls hl
  have hl : lv_has ls 5 [(0, .ref (oc 11))] := hl
  have hx := C.1.1
  have hb := C.1.2.1
  unfold mX11_term at hm
  refine lv_aload_n hx hb dX11_term_0 rfl (lv_at hl 0 rfl) ?_
  refine g_get C hw gC11_1 dX11_term_1 ?_
  obtain ⟨r4, iv4, ar4, la4, pA4, pB4, hc4, hm⟩ := obc_some hm
  refine g_calli (As := []) (rest := []) C hw (kX3_size hc4) mtX3_size lkX11_89 oC3 hl.1 rfl rfl (Nat.le_of_ble_eq_true rfl) ⟨Nat.le_of_ble_eq_true rfl, Nat.le_of_ble_eq_true rfl⟩ dX11_term_4 ⟨Nat.zero_le _, Nat.zero_le _⟩ (fun H locs hw => ?_)
  refine lv_istore_n (lv' := [(1, .int r4), (0, .ref (oc 11))]) hx hb dX11_term_7 rfl hl (by decide) rfl (fun ls hl => ?_)
  refine lv_aload_n hx hb dX11_term_8 rfl (lv_at hl 1 rfl) ?_
  refine g_get C hw gC11_0 dX11_term_9 ?_
  obtain ⟨r12, iv12, ar12, la12, pA12, pB12, hc12, hm⟩ := obc_some hm
  refine g_callv (As := []) (rest := []) C hw (kX8_rewind hc12) mtX8_rewind lkX11_108 oC8 hl.1 rfl rfl (Nat.le_of_ble_eq_true rfl) ⟨Nat.le_of_ble_eq_true rfl, Nat.le_of_ble_eq_true rfl⟩ dX11_term_12 ⟨Nat.zero_le _, Nat.zero_le _⟩ (fun H locs hw => ?_)
  refine lv_aload_n hx hb dX11_term_15 rfl (lv_at hl 1 rfl) ?_
  refine g_get C hw gC11_7 dX11_term_16 ?_
  refine lv_aload_n hx hb dX11_term_19 rfl (lv_at hl 1 rfl) ?_
  refine g_get C hw gC11_5 dX11_term_20 ?_
  obtain ⟨r23, iv23, ar23, la23, pA23, pB23, hc23, hm⟩ := obc_some hm
  refine g_calli (As := [.ref pb]) (rest := []) C hw (kX7_read hc23) mtX7_read lkX11_123 oC7 hl.1 rfl rfl (Nat.le_of_ble_eq_true rfl) ⟨Nat.le_of_ble_eq_true rfl, Nat.le_of_ble_eq_true rfl⟩ dX11_term_23 ⟨Nat.zero_le _, Nat.zero_le _⟩ (fun H locs hw => ?_)
  refine lv_istore_n (lv' := [(2, .int r23), (1, .int r4), (0, .ref (oc 11))]) hx hb dX11_term_26 rfl hl (by decide) rfl (fun ls hl => ?_)
  refine lv_aload_n hx hb dX11_term_27 rfl (lv_at hl 2 rfl) ?_
  refine lv_aload_n hx hb dX11_term_28 rfl (lv_at hl 2 rfl) ?_
  refine g_get C hw gC11_0 dX11_term_29 ?_
  obtain ⟨r32, iv32, ar32, la32, pA32, pB32, hc32, hm⟩ := obc_some hm
  refine g_calli (As := []) (rest := [.ref (oc 11)]) C hw (kX8_faultPlace hc32) mtX8_faultPlace lkX11_115 oC8 hl.1 rfl rfl (Nat.le_of_ble_eq_true rfl) ⟨Nat.le_of_ble_eq_true rfl, Nat.le_of_ble_eq_true rfl⟩ dX11_term_32 ⟨Nat.zero_le _, Nat.zero_le _⟩ (fun H locs hw => ?_)
  refine g_put C hw pC11_11 dX11_term_35 (fun H locs hw => ?_)
  refine lv_aload_n hx hb dX11_term_38 rfl (lv_at hl 2 rfl) ?_
  refine g_get C hw gC11_0 dX11_term_39 ?_
  obtain ⟨r42, iv42, ar42, la42, pA42, pB42, hc42, hm⟩ := obc_some hm
  refine g_calli (As := []) (rest := []) C hw (kX8_fault hc42) mtX8_fault lkX11_117 oC8 hl.1 rfl rfl (Nat.le_of_ble_eq_true rfl) ⟨Nat.le_of_ble_eq_true rfl, Nat.le_of_ble_eq_true rfl⟩ dX11_term_42 ⟨Nat.zero_le _, Nat.zero_le _⟩ (fun H locs hw => ?_)
  refine lv_istore_n (lv' := [(3, .int r42), (2, .int r23), (1, .int r4), (0, .ref (oc 11))]) hx hb dX11_term_45 rfl hl (by decide) rfl (fun ls hl => ?_)
  refine lv_aload_n hx hb dX11_term_46 rfl (lv_at hl 3 rfl) ?_
  refine g_get C hw gC11_0 dX11_term_47 ?_
  obtain ⟨r50, iv50, ar50, la50, pA50, pB50, hc50, hm⟩ := obc_some hm
  refine g_callv (As := []) (rest := []) C hw (kX8_empty hc50) mtX8_empty lkX11_120 oC8 hl.1 rfl rfl (Nat.le_of_ble_eq_true rfl) ⟨Nat.le_of_ble_eq_true rfl, Nat.le_of_ble_eq_true rfl⟩ dX11_term_50 ⟨Nat.zero_le _, Nat.zero_le _⟩ (fun H locs hw => ?_)
  refine lv_iload_n hx hb dX11_term_53 rfl (lv_at hl 1 rfl) ?_
  refine lv_if_eq (tgt := 90) hx hb dX11_term_54 (by decide) (fun hc => ?_) (fun hc => ?_)
  · have hm := it_t hc hm
    refine lv_iload_n hx hb dX11_term_90 rfl (lv_at hl 1 rfl) ?_
    refine lv_if_eq (tgt := 98) hx hb dX11_term_91 (by decide) (fun hc => ?_) (fun hc => ?_)
    · have hm := it_t hc hm
      refine lv_aload_n hx hb dX11_term_98 rfl (lv_at hl 3 rfl) ?_
      refine g_get C hw gC11_1 dX11_term_99 ?_
      refine lv_iload_n hx hb dX11_term_102 rfl (lv_at hl 2 rfl) ?_
      obtain ⟨r103, iv103, ar103, la103, pA103, pB103, hc103, hm⟩ := obc_some hm
      refine g_callv (As := [.int r4]) (rest := []) C hw (kX3_cutTo hc103) mtX3_cutTo lkX11_93 oC3 hl.1 rfl rfl (Nat.le_of_ble_eq_true rfl) ⟨Nat.le_of_ble_eq_true rfl, Nat.le_of_ble_eq_true rfl⟩ dX11_term_103 ⟨Nat.zero_le _, Nat.zero_le _⟩ (fun H locs hw => ?_)
      refine lv_iload_n hx hb dX11_term_106 rfl (lv_at hl 0 rfl) ?_
      cases hm
      exact g_iret C hw dX11_term_107
    · have hm := it_f hc hm
      refine lv_iload_n hx hb dX11_term_94 rfl (lv_at hl 0 rfl) ?_
      refine lv_if_ge (tgt := 108) hx hb dX11_term_95 (by decide) (fun hc => ?_) (fun hc => ?_)
      · have hm := it_t hc hm
        refine lv_aload_n hx hb dX11_term_108 rfl (lv_at hl 3 rfl) ?_
        refine g_get C hw gC11_4 dX11_term_109 ?_
        refine lv_astore (lv' := [(4, .ref pa), (3, .int r42), (2, .int r23), (1, .int r4), (0, .ref (oc 11))]) hx hb dX11_term_112 hl (by decide) rfl (fun ls hl => ?_)
        refine lv_aload_n hx hb dX11_term_114 rfl (lv_at hl 4 rfl) ?_
        refine lv_aload_n hx hb dX11_term_115 rfl (lv_at hl 4 rfl) ?_
        refine g_get C hw gC11_5 dX11_term_116 ?_
        refine g_put C hw pC11_4 dX11_term_119 (fun H locs hw => ?_)
        refine lv_aload_n hx hb dX11_term_122 rfl (lv_at hl 4 rfl) ?_
        refine lv_aload hx hb dX11_term_123 (lv_at hl 0 rfl) ?_
        refine g_put C hw pC11_5 dX11_term_125 (fun H locs hw => ?_)
        refine lv_aload_n hx hb dX11_term_128 rfl (lv_at hl 4 rfl) ?_
        refine lv_iconst (v := 1) hx hb dX11_term_129 ci_1 ?_
        refine g_put C hw pC11_10_1 dX11_term_130 (fun H locs hw => ?_)
        refine lv_iload_n hx hb dX11_term_133 rfl (lv_at hl 1 rfl) ?_
        cases hm
        exact g_iret C hw dX11_term_134
      · have hm := it_f hc hm
        refine lv_aload_n hx hb dX11_term_98 rfl (lv_at hl 3 rfl) ?_
        refine g_get C hw gC11_1 dX11_term_99 ?_
        refine lv_iload_n hx hb dX11_term_102 rfl (lv_at hl 2 rfl) ?_
        obtain ⟨r103, iv103, ar103, la103, pA103, pB103, hc103, hm⟩ := obc_some hm
        refine g_callv (As := [.int r4]) (rest := []) C hw (kX3_cutTo hc103) mtX3_cutTo lkX11_93 oC3 hl.1 rfl rfl (Nat.le_of_ble_eq_true rfl) ⟨Nat.le_of_ble_eq_true rfl, Nat.le_of_ble_eq_true rfl⟩ dX11_term_103 ⟨Nat.zero_le _, Nat.zero_le _⟩ (fun H locs hw => ?_)
        refine lv_iload_n hx hb dX11_term_106 rfl (lv_at hl 0 rfl) ?_
        cases hm
        exact g_iret C hw dX11_term_107
  · have hm := it_f hc hm
    refine lv_aload_n hx hb dX11_term_57 rfl (lv_at hl 3 rfl) ?_
    refine g_get C hw gC11_8 dX11_term_58 ?_
    refine lv_aload_n hx hb dX11_term_61 rfl (lv_at hl 3 rfl) ?_
    refine g_get C hw gC11_5 dX11_term_62 ?_
    obtain ⟨r65, iv65, ar65, la65, pA65, pB65, hc65, hm⟩ := obc_some hm
    refine g_calli (As := [.ref pb]) (rest := []) C hw (kX2_check hc65) mtX2_check lkX11_126 oC2 hl.1 rfl rfl (Nat.le_of_ble_eq_true rfl) ⟨Nat.le_of_ble_eq_true rfl, Nat.le_of_ble_eq_true rfl⟩ dX11_term_65 ⟨Nat.zero_le _, Nat.zero_le _⟩ (fun H locs hw => ?_)
    refine lv_istore_n (lv' := [(3, .int r65), (2, .int r23), (1, .int r4), (0, .ref (oc 11))]) hx hb dX11_term_68 rfl hl (by decide) rfl (fun ls hl => ?_)
    refine lv_aload_n hx hb dX11_term_69 rfl (lv_at hl 3 rfl) ?_
    refine lv_iload_n hx hb dX11_term_70 rfl (lv_at hl 0 rfl) ?_
    refine lv_bipush (v := (-15)) hx hb dX11_term_71 cb_m15 ?_
    refine lv_icmp_ne (tgt := 86) hx hb dX11_term_73 (by decide) (fun hc => ?_) (fun hc => ?_)
    · have hm := it_f hc hm
      refine lv_iconst (v := (-1)) hx hb dX11_term_86 ci_m1 ?_
      refine g_put C hw pC11_11 dX11_term_87 (fun H locs hw => ?_)
      refine lv_iload_n hx hb dX11_term_90 rfl (lv_at hl 1 rfl) ?_
      refine lv_if_eq (tgt := 98) hx hb dX11_term_91 (by decide) (fun hc => ?_) (fun hc => ?_)
      · have hm := it_t hc hm
        refine lv_aload_n hx hb dX11_term_98 rfl (lv_at hl 3 rfl) ?_
        refine g_get C hw gC11_1 dX11_term_99 ?_
        refine lv_iload_n hx hb dX11_term_102 rfl (lv_at hl 2 rfl) ?_
        obtain ⟨r103, iv103, ar103, la103, pA103, pB103, hc103, hm⟩ := obc_some hm
        refine g_callv (As := [.int r4]) (rest := []) C hw (kX3_cutTo hc103) mtX3_cutTo lkX11_93 oC3 hl.1 rfl rfl (Nat.le_of_ble_eq_true rfl) ⟨Nat.le_of_ble_eq_true rfl, Nat.le_of_ble_eq_true rfl⟩ dX11_term_103 ⟨Nat.zero_le _, Nat.zero_le _⟩ (fun H locs hw => ?_)
        refine lv_iload_n hx hb dX11_term_106 rfl (lv_at hl 0 rfl) ?_
        cases hm
        exact g_iret C hw dX11_term_107
      · have hm := it_f hc hm
        refine lv_iload_n hx hb dX11_term_94 rfl (lv_at hl 0 rfl) ?_
        refine lv_if_ge (tgt := 108) hx hb dX11_term_95 (by decide) (fun hc => ?_) (fun hc => ?_)
        · have hm := it_t hc hm
          refine lv_aload_n hx hb dX11_term_108 rfl (lv_at hl 3 rfl) ?_
          refine g_get C hw gC11_4 dX11_term_109 ?_
          refine lv_astore (lv' := [(4, .ref pa), (3, .int r65), (2, .int r23), (1, .int r4), (0, .ref (oc 11))]) hx hb dX11_term_112 hl (by decide) rfl (fun ls hl => ?_)
          refine lv_aload_n hx hb dX11_term_114 rfl (lv_at hl 4 rfl) ?_
          refine lv_aload_n hx hb dX11_term_115 rfl (lv_at hl 4 rfl) ?_
          refine g_get C hw gC11_5 dX11_term_116 ?_
          refine g_put C hw pC11_4 dX11_term_119 (fun H locs hw => ?_)
          refine lv_aload_n hx hb dX11_term_122 rfl (lv_at hl 4 rfl) ?_
          refine lv_aload hx hb dX11_term_123 (lv_at hl 0 rfl) ?_
          refine g_put C hw pC11_5 dX11_term_125 (fun H locs hw => ?_)
          refine lv_aload_n hx hb dX11_term_128 rfl (lv_at hl 4 rfl) ?_
          refine lv_iconst (v := 1) hx hb dX11_term_129 ci_1 ?_
          refine g_put C hw pC11_10_1 dX11_term_130 (fun H locs hw => ?_)
          refine lv_iload_n hx hb dX11_term_133 rfl (lv_at hl 1 rfl) ?_
          cases hm
          exact g_iret C hw dX11_term_134
        · have hm := it_f hc hm
          refine lv_aload_n hx hb dX11_term_98 rfl (lv_at hl 3 rfl) ?_
          refine g_get C hw gC11_1 dX11_term_99 ?_
          refine lv_iload_n hx hb dX11_term_102 rfl (lv_at hl 2 rfl) ?_
          obtain ⟨r103, iv103, ar103, la103, pA103, pB103, hc103, hm⟩ := obc_some hm
          refine g_callv (As := [.int r4]) (rest := []) C hw (kX3_cutTo hc103) mtX3_cutTo lkX11_93 oC3 hl.1 rfl rfl (Nat.le_of_ble_eq_true rfl) ⟨Nat.le_of_ble_eq_true rfl, Nat.le_of_ble_eq_true rfl⟩ dX11_term_103 ⟨Nat.zero_le _, Nat.zero_le _⟩ (fun H locs hw => ?_)
          refine lv_iload_n hx hb dX11_term_106 rfl (lv_at hl 0 rfl) ?_
          cases hm
          exact g_iret C hw dX11_term_107
    · have hm := it_t hc hm
      refine lv_aload_n hx hb dX11_term_76 rfl (lv_at hl 3 rfl) ?_
      refine g_get C hw gC11_8 dX11_term_77 ?_
      obtain ⟨r80, iv80, ar80, la80, pA80, pB80, hc80, hm⟩ := obc_some hm
      refine g_calli (As := []) (rest := [.ref (oc 11)]) C hw (kX2_misfitPlace hc80) mtX2_misfitPlace lkX11_130 oC2 hl.1 rfl rfl (Nat.le_of_ble_eq_true rfl) ⟨Nat.le_of_ble_eq_true rfl, Nat.le_of_ble_eq_true rfl⟩ dX11_term_80 ⟨Nat.zero_le _, Nat.zero_le _⟩ (fun H locs hw => ?_)
      refine lv_goto (tgt := 87) hx hb dX11_term_83 (by decide) ?_
      refine g_put C hw pC11_11 dX11_term_87 (fun H locs hw => ?_)
      refine lv_iload_n hx hb dX11_term_90 rfl (lv_at hl 1 rfl) ?_
      refine lv_if_eq (tgt := 98) hx hb dX11_term_91 (by decide) (fun hc => ?_) (fun hc => ?_)
      · have hm := it_t hc hm
        refine lv_aload_n hx hb dX11_term_98 rfl (lv_at hl 3 rfl) ?_
        refine g_get C hw gC11_1 dX11_term_99 ?_
        refine lv_iload_n hx hb dX11_term_102 rfl (lv_at hl 2 rfl) ?_
        obtain ⟨r103, iv103, ar103, la103, pA103, pB103, hc103, hm⟩ := obc_some hm
        refine g_callv (As := [.int r4]) (rest := []) C hw (kX3_cutTo hc103) mtX3_cutTo lkX11_93 oC3 hl.1 rfl rfl (Nat.le_of_ble_eq_true rfl) ⟨Nat.le_of_ble_eq_true rfl, Nat.le_of_ble_eq_true rfl⟩ dX11_term_103 ⟨Nat.zero_le _, Nat.zero_le _⟩ (fun H locs hw => ?_)
        refine lv_iload_n hx hb dX11_term_106 rfl (lv_at hl 0 rfl) ?_
        cases hm
        exact g_iret C hw dX11_term_107
      · have hm := it_f hc hm
        refine lv_iload_n hx hb dX11_term_94 rfl (lv_at hl 0 rfl) ?_
        refine lv_if_ge (tgt := 108) hx hb dX11_term_95 (by decide) (fun hc => ?_) (fun hc => ?_)
        · have hm := it_t hc hm
          refine lv_aload_n hx hb dX11_term_108 rfl (lv_at hl 3 rfl) ?_
          refine g_get C hw gC11_4 dX11_term_109 ?_
          refine lv_astore (lv' := [(4, .ref pa), (3, .int r65), (2, .int r23), (1, .int r4), (0, .ref (oc 11))]) hx hb dX11_term_112 hl (by decide) rfl (fun ls hl => ?_)
          refine lv_aload_n hx hb dX11_term_114 rfl (lv_at hl 4 rfl) ?_
          refine lv_aload_n hx hb dX11_term_115 rfl (lv_at hl 4 rfl) ?_
          refine g_get C hw gC11_5 dX11_term_116 ?_
          refine g_put C hw pC11_4 dX11_term_119 (fun H locs hw => ?_)
          refine lv_aload_n hx hb dX11_term_122 rfl (lv_at hl 4 rfl) ?_
          refine lv_aload hx hb dX11_term_123 (lv_at hl 0 rfl) ?_
          refine g_put C hw pC11_5 dX11_term_125 (fun H locs hw => ?_)
          refine lv_aload_n hx hb dX11_term_128 rfl (lv_at hl 4 rfl) ?_
          refine lv_iconst (v := 1) hx hb dX11_term_129 ci_1 ?_
          refine g_put C hw pC11_10_1 dX11_term_130 (fun H locs hw => ?_)
          refine lv_iload_n hx hb dX11_term_133 rfl (lv_at hl 1 rfl) ?_
          cases hm
          exact g_iret C hw dX11_term_134
        · have hm := it_f hc hm
          refine lv_aload_n hx hb dX11_term_98 rfl (lv_at hl 3 rfl) ?_
          refine g_get C hw gC11_1 dX11_term_99 ?_
          refine lv_iload_n hx hb dX11_term_102 rfl (lv_at hl 2 rfl) ?_
          obtain ⟨r103, iv103, ar103, la103, pA103, pB103, hc103, hm⟩ := obc_some hm
          refine g_callv (As := [.int r4]) (rest := []) C hw (kX3_cutTo hc103) mtX3_cutTo lkX11_93 oC3 hl.1 rfl rfl (Nat.le_of_ble_eq_true rfl) ⟨Nat.le_of_ble_eq_true rfl, Nat.le_of_ble_eq_true rfl⟩ dX11_term_103 ⟨Nat.zero_le _, Nat.zero_le _⟩ (fun H locs hw => ?_)
          refine lv_iload_n hx hb dX11_term_106 rfl (lv_at hl 0 rfl) ?_
          cases hm
          exact g_iret C hw dX11_term_107
def mX11_place  (iv : mI) (ar : mA) (la : mL) (pA : mA) (pB : mA) : Option (Int32 × mI × mA × mL × mA × mA) := some ((iv 1111), iv, ar, la, pA, pB)
set_option maxRecDepth 100000 in
set_option maxHeartbeats 4000000 in
theorem kX11_place {iv ivz : mI} {ar arz : mA} {la laz : mL} {pA pAz : mA} {pB pBz : mA} {rz : Int32} (hm : mX11_place iv ar la pA pB = some (rz, ivz, arz, laz, pAz, pBz)) : Ct l D cI cJ yX11_place cX11_place 1 (some .int) 0 0 [.ref (oc 11)] (wC cI cJ oc ac pa pb aa ab pa pb tp cp mp iv ar la pA pB) (wC cI cJ oc ac pa pb aa ab pa pb tp cp mp ivz arz laz pAz pBz) rz := by
  intro sz
  refine ct_of (by decide) (Nat.le_of_ble_eq_true rfl) ?_
  intro p e s m args below meth c C hw ls hl
  have hl : lv_has ls 1 [(0, .ref (oc 11))] := hl
  have hx := C.1.1
  have hb := C.1.2.1
  unfold mX11_place at hm
  refine lv_aload_n hx hb dX11_place_0 rfl (lv_at hl 0 rfl) ?_
  refine g_get C hw gC11_11 dX11_place_1 ?_
  cases hm
  exact g_iret C hw dX11_place_4
def mX3_has (a1 : Int32) (iv : mI) (ar : mA) (la : mL) (pA : mA) (pB : mA) : Option (Int32 × mI × mA × mL × mA × mA) := if a1 < 0 then some (0, iv, ar, la, pA, pB) else if (iv 303) ≤ a1 then some (0, iv, ar, la, pA, pB) else some (1, iv, ar, la, pA, pB)
set_option maxRecDepth 100000 in
set_option maxHeartbeats 4000000 in
theorem kX3_has {a1 : Int32} {iv ivz : mI} {ar arz : mA} {la laz : mL} {pA pAz : mA} {pB pBz : mA} {rz : Int32} (hm : mX3_has a1 iv ar la pA pB = some (rz, ivz, arz, laz, pAz, pBz)) : Ct l D cI cJ yX3_has cX3_has 2 (some .boolean) 0 0 [.ref (oc 3), .int a1] (wC cI cJ oc ac pa pb aa ab xp xs tp cp mp iv ar la pA pB) (wC cI cJ oc ac pa pb aa ab xp xs tp cp mp ivz arz laz pAz pBz) rz := by
  intro sz
  refine ct_of (by decide) (Nat.le_of_ble_eq_true rfl) ?_
  intro p e s m args below meth c C hw ls hl
  have hl : lv_has ls 2 [(0, .ref (oc 3)), (1, .int a1)] := hl
  have hx := C.1.1
  have hb := C.1.2.1
  unfold mX3_has at hm
  refine lv_iload_n hx hb dX3_has_0 rfl (lv_at hl 1 rfl) ?_
  refine lv_if_lt (tgt := 16) hx hb dX3_has_1 (by decide) (fun hc => ?_) (fun hc => ?_)
  · have hm := it_t hc hm
    refine lv_iconst (v := 0) hx hb dX3_has_16 ci_0 ?_
    cases hm
    exact g_zret C hw (Or.inl rfl) dX3_has_17
  · have hm := it_f hc hm
    refine lv_iload_n hx hb dX3_has_4 rfl (lv_at hl 1 rfl) ?_
    refine lv_aload_n hx hb dX3_has_5 rfl (lv_at hl 0 rfl) ?_
    refine g_get C hw gC3_3 dX3_has_6 ?_
    refine lv_icmp_ge (tgt := 16) hx hb dX3_has_9 (by decide) (fun hc => ?_) (fun hc => ?_)
    · have hm := it_t hc hm
      refine lv_iconst (v := 0) hx hb dX3_has_16 ci_0 ?_
      cases hm
      exact g_zret C hw (Or.inl rfl) dX3_has_17
    · have hm := it_f hc hm
      refine lv_iconst (v := 1) hx hb dX3_has_12 ci_1 ?_
      refine lv_goto (tgt := 17) hx hb dX3_has_13 (by decide) ?_
      cases hm
      exact g_zret C hw (Or.inr rfl) dX3_has_17
def mX11_node (a1 : Int32) (a2 : Int32) (iv : mI) (ar : mA) (la : mL) (pA : mA) (pB : mA) : Option (Int32 × mI × mA × mL × mA × mA) := if 0 ≤ a2 then obc (mX3_has a1 iv ar la pA pB) (fun r12 iv12 ar12 la12 pA12 pB12 => if r12 = 0 then some ((-1), iv12, ar12, la12, pA12, pB12) else if a2 = 0 then obc (mX3_kindOf a1 iv12 ar12 la12 pA12 pB12) (fun r29 iv29 ar29 la29 pA29 pB29 => some (r29, iv29, ar29, la29, pA29, pB29)) else if a2 = 1 then obc (mX3_labelsOf a1 iv12 ar12 la12 pA12 pB12) (fun r43 iv43 ar43 la43 pA43 pB43 => some (r43, iv43, ar43, la43, pA43, pB43)) else obc (mX3_partOf a1 (a2 - 2) iv12 ar12 la12 pA12 pB12) (fun r57 iv57 ar57 la57 pA57 pB57 => some (r57, iv57, ar57, la57, pA57, pB57))) else some ((-2), iv, ar, la, pA, pB)
set_option maxRecDepth 100000 in
set_option maxHeartbeats 4000000 in
theorem kX11_node {a1 a2 : Int32} {iv ivz : mI} {ar arz : mA} {la laz : mL} {pA pAz : mA} {pB pBz : mA} {rz : Int32} (hm : mX11_node a1 a2 iv ar la pA pB = some (rz, ivz, arz, laz, pAz, pBz)) : Ct l D cI cJ yX11_node cX11_node 3 (some .int) 1 23 [.ref (oc 11), .int a1, .int a2] (wC cI cJ oc ac pa pb aa ab pa pb tp cp mp iv ar la pA pB) (wC cI cJ oc ac pa pb aa ab pa pb tp cp mp ivz arz laz pAz pBz) rz := by
  intro sz
  refine ct_of (by decide) (Nat.le_of_ble_eq_true rfl) ?_
  intro p e s m args below meth c C hw ls hl
  have hl : lv_has ls 3 [(0, .ref (oc 11)), (1, .int a1), (2, .int a2)] := hl
  have hx := C.1.1
  have hb := C.1.2.1
  unfold mX11_node at hm
  refine lv_iload_n hx hb dX11_node_0 rfl (lv_at hl 2 rfl) ?_
  refine lv_if_ge (tgt := 7) hx hb dX11_node_1 (by decide) (fun hc => ?_) (fun hc => ?_)
  · have hm := it_t hc hm
    refine lv_aload_n hx hb dX11_node_7 rfl (lv_at hl 0 rfl) ?_
    refine g_get C hw gC11_1 dX11_node_8 ?_
    refine lv_iload_n hx hb dX11_node_11 rfl (lv_at hl 1 rfl) ?_
    obtain ⟨r12, iv12, ar12, la12, pA12, pB12, hc12, hm⟩ := obc_some hm
    refine g_calli (As := [.int a1]) (rest := []) C hw (kX3_has hc12) mtX3_has lkX11_133 oC3 hl.1 rfl rfl (Nat.le_of_ble_eq_true rfl) ⟨Nat.le_of_ble_eq_true rfl, Nat.le_of_ble_eq_true rfl⟩ dX11_node_12 ⟨Nat.zero_le _, Nat.zero_le _⟩ (fun H locs hw => ?_)
    refine lv_if_ne (tgt := 20) hx hb dX11_node_15 (by decide) (fun hc => ?_) (fun hc => ?_)
    · have hm := it_f hc hm
      refine lv_iload_n hx hb dX11_node_20 rfl (lv_at hl 2 rfl) ?_
      refine lv_if_ne (tgt := 33) hx hb dX11_node_21 (by decide) (fun hc => ?_) (fun hc => ?_)
      · have hm := it_f hc hm
        refine lv_iload_n hx hb dX11_node_33 rfl (lv_at hl 2 rfl) ?_
        refine lv_iconst (v := 1) hx hb dX11_node_34 ci_1 ?_
        refine lv_icmp_ne (tgt := 49) hx hb dX11_node_35 (by decide) (fun hc => ?_) (fun hc => ?_)
        · have hm := it_f hc hm
          refine lv_aload_n hx hb dX11_node_49 rfl (lv_at hl 0 rfl) ?_
          refine g_get C hw gC11_1 dX11_node_50 ?_
          refine lv_iload_n hx hb dX11_node_53 rfl (lv_at hl 1 rfl) ?_
          refine lv_iload_n hx hb dX11_node_54 rfl (lv_at hl 2 rfl) ?_
          refine lv_iconst (v := 2) hx hb dX11_node_55 ci_2 ?_
          refine lv_isub hx hb dX11_node_56 ?_
          obtain ⟨r57, iv57, ar57, la57, pA57, pB57, hc57, hm⟩ := obc_some hm
          refine g_calli (As := [.int a1, .int (a2 - 2)]) (rest := []) C hw (kX3_partOf hc57) mtX3_partOf lkX11_143 oC3 hl.1 rfl rfl (Nat.le_of_ble_eq_true rfl) ⟨Nat.le_of_ble_eq_true rfl, Nat.le_of_ble_eq_true rfl⟩ dX11_node_57 ⟨Nat.zero_le _, Nat.zero_le _⟩ (fun H locs hw => ?_)
          cases hm
          exact g_iret C hw dX11_node_60
        · have hm := it_t hc hm
          refine lv_aload_n hx hb dX11_node_38 rfl (lv_at hl 0 rfl) ?_
          refine g_get C hw gC11_1 dX11_node_39 ?_
          refine lv_iload_n hx hb dX11_node_42 rfl (lv_at hl 1 rfl) ?_
          obtain ⟨r43, iv43, ar43, la43, pA43, pB43, hc43, hm⟩ := obc_some hm
          refine g_calli (As := [.int a1]) (rest := []) C hw (kX3_labelsOf hc43) mtX3_labelsOf lkX11_140 oC3 hl.1 rfl rfl (Nat.le_of_ble_eq_true rfl) ⟨Nat.le_of_ble_eq_true rfl, Nat.le_of_ble_eq_true rfl⟩ dX11_node_43 ⟨Nat.zero_le _, Nat.zero_le _⟩ (fun H locs hw => ?_)
          refine lv_goto (tgt := 60) hx hb dX11_node_46 (by decide) ?_
          cases hm
          exact g_iret C hw dX11_node_60
      · have hm := it_t hc hm
        refine lv_aload_n hx hb dX11_node_24 rfl (lv_at hl 0 rfl) ?_
        refine g_get C hw gC11_1 dX11_node_25 ?_
        refine lv_iload_n hx hb dX11_node_28 rfl (lv_at hl 1 rfl) ?_
        obtain ⟨r29, iv29, ar29, la29, pA29, pB29, hc29, hm⟩ := obc_some hm
        refine g_calli (As := [.int a1]) (rest := []) C hw (kX3_kindOf hc29) mtX3_kindOf lkX11_137 oC3 hl.1 rfl rfl (Nat.le_of_ble_eq_true rfl) ⟨Nat.le_of_ble_eq_true rfl, Nat.le_of_ble_eq_true rfl⟩ dX11_node_29 ⟨Nat.zero_le _, Nat.zero_le _⟩ (fun H locs hw => ?_)
        cases hm
        exact g_iret C hw dX11_node_32
    · have hm := it_t hc hm
      refine lv_iconst (v := (-1)) hx hb dX11_node_18 ci_m1 ?_
      cases hm
      exact g_iret C hw dX11_node_19
  · have hm := it_f hc hm
    refine lv_bipush (v := (-2)) hx hb dX11_node_4 cb_m2 ?_
    cases hm
    exact g_iret C hw dX11_node_6
def mX11_below (a1 : Int32) (a2 : Int32) (iv : mI) (ar : mA) (la : mL) (pA : mA) (pB : mA) : Option (Int32 × mI × mA × mL × mA × mA) := obc (mX3_has a1 iv ar la pA pB) (fun r5 iv5 ar5 la5 pA5 pB5 => if r5 = 0 then some ((-2), iv5, ar5, la5, pA5, pB5) else obc (mX3_has a2 iv5 ar5 la5 pA5 pB5) (fun r16 iv16 ar16 la16 pA16 pB16 => if r16 = 0 then some ((-2), iv16, ar16, la16, pA16, pB16) else obc (mX5_search a1 a2 iv16 ar16 la16 pA16 pB16) (fun r31 iv31 ar31 la31 pA31 pB31 => if r31 = (-1) then some (1, iv31, ar31, la31, pA31, pB31) else some (0, iv31, ar31, la31, pA31, pB31))))
set_option maxRecDepth 100000 in
set_option maxHeartbeats 4000000 in
theorem kX11_below {a1 a2 : Int32} {iv ivz : mI} {ar arz : mA} {la laz : mL} {pA pAz : mA} {pB pBz : mA} {rz : Int32} (hm : mX11_below a1 a2 iv ar la pA pB = some (rz, ivz, arz, laz, pAz, pBz)) : Ct l D cI cJ yX11_below cX11_below 3 (some .int) 3 79 [.ref (oc 11), .int a1, .int a2] (wC cI cJ oc ac pa pb aa ab pa pb tp cp mp iv ar la pA pB) (wC cI cJ oc ac pa pb aa ab pa pb tp cp mp ivz arz laz pAz pBz) rz := by
  intro sz
  refine ct_of (by decide) (Nat.le_of_ble_eq_true rfl) ?_
  intro p e s m args below meth c C hw ls hl
  have hl : lv_has ls 3 [(0, .ref (oc 11)), (1, .int a1), (2, .int a2)] := hl
  have hx := C.1.1
  have hb := C.1.2.1
  unfold mX11_below at hm
  refine lv_aload_n hx hb dX11_below_0 rfl (lv_at hl 0 rfl) ?_
  refine g_get C hw gC11_1 dX11_below_1 ?_
  refine lv_iload_n hx hb dX11_below_4 rfl (lv_at hl 1 rfl) ?_
  obtain ⟨r5, iv5, ar5, la5, pA5, pB5, hc5, hm⟩ := obc_some hm
  refine g_calli (As := [.int a1]) (rest := []) C hw (kX3_has hc5) mtX3_has lkX11_133 oC3 hl.1 rfl rfl (Nat.le_of_ble_eq_true rfl) ⟨Nat.le_of_ble_eq_true rfl, Nat.le_of_ble_eq_true rfl⟩ dX11_below_5 ⟨Nat.zero_le _, Nat.zero_le _⟩ (fun H locs hw => ?_)
  refine lv_if_eq (tgt := 22) hx hb dX11_below_8 (by decide) (fun hc => ?_) (fun hc => ?_)
  · have hm := it_t hc hm
    refine lv_bipush (v := (-2)) hx hb dX11_below_22 cb_m2 ?_
    cases hm
    exact g_iret C hw dX11_below_24
  · have hm := it_f hc hm
    refine lv_aload_n hx hb dX11_below_11 rfl (lv_at hl 0 rfl) ?_
    refine g_get C hw gC11_1 dX11_below_12 ?_
    refine lv_iload_n hx hb dX11_below_15 rfl (lv_at hl 2 rfl) ?_
    obtain ⟨r16, iv16, ar16, la16, pA16, pB16, hc16, hm⟩ := obc_some hm
    refine g_calli (As := [.int a2]) (rest := []) C hw (kX3_has hc16) mtX3_has lkX11_133 oC3 hl.1 rfl rfl (Nat.le_of_ble_eq_true rfl) ⟨Nat.le_of_ble_eq_true rfl, Nat.le_of_ble_eq_true rfl⟩ dX11_below_16 ⟨Nat.zero_le _, Nat.zero_le _⟩ (fun H locs hw => ?_)
    refine lv_if_ne (tgt := 25) hx hb dX11_below_19 (by decide) (fun hc => ?_) (fun hc => ?_)
    · have hm := it_f hc hm
      refine lv_aload_n hx hb dX11_below_25 rfl (lv_at hl 0 rfl) ?_
      refine g_get C hw gC11_2 dX11_below_26 ?_
      refine lv_iload_n hx hb dX11_below_29 rfl (lv_at hl 1 rfl) ?_
      refine lv_iload_n hx hb dX11_below_30 rfl (lv_at hl 2 rfl) ?_
      obtain ⟨r31, iv31, ar31, la31, pA31, pB31, hc31, hm⟩ := obc_some hm
      refine g_calli (As := [.int a1, .int a2]) (rest := []) C hw (kX5_search hc31) mtX5_search lkX11_147 oC5 hl.1 rfl rfl (Nat.le_of_ble_eq_true rfl) ⟨Nat.le_of_ble_eq_true rfl, Nat.le_of_ble_eq_true rfl⟩ dX11_below_31 ⟨Nat.zero_le _, Nat.zero_le _⟩ (fun H locs hw => ?_)
      refine lv_iconst (v := (-1)) hx hb dX11_below_34 ci_m1 ?_
      refine lv_icmp_ne (tgt := 42) hx hb dX11_below_35 (by decide) (fun hc => ?_) (fun hc => ?_)
      · have hm := it_f hc hm
        refine lv_iconst (v := 0) hx hb dX11_below_42 ci_0 ?_
        cases hm
        exact g_iret C hw dX11_below_43
      · have hm := it_t hc hm
        refine lv_iconst (v := 1) hx hb dX11_below_38 ci_1 ?_
        refine lv_goto (tgt := 43) hx hb dX11_below_39 (by decide) ?_
        cases hm
        exact g_iret C hw dX11_below_43
    · have hm := it_t hc hm
      refine lv_bipush (v := (-2)) hx hb dX11_below_22 cb_m2 ?_
      cases hm
      exact g_iret C hw dX11_below_24
def mX5_cameFrom (a1 : Int32) (iv : mI) (ar : mA) (la : mL) (pA : mA) (pB : mA) : Option (Int32 × mI × mA × mL × mA × mA) := if a1 < 0 then some (0, iv, ar, la, pA, pB) else if (iv 503) ≤ a1 then some (0, iv, ar, la, pA, pB) else if a1 < 0 ∨ 40000 ≤ a1.toNatClampNeg then none else some ((((la 501 a1.toNatClampNeg) >>> (Int32.toInt64 19 &&& 63)).toInt32), iv, ar, la, pA, pB)
set_option maxRecDepth 100000 in
set_option maxHeartbeats 4000000 in
theorem kX5_cameFrom {a1 : Int32} {iv ivz : mI} {ar arz : mA} {la laz : mL} {pA pAz : mA} {pB pBz : mA} {rz : Int32} (hm : mX5_cameFrom a1 iv ar la pA pB = some (rz, ivz, arz, laz, pAz, pBz)) : Ct l D cI cJ yX5_cameFrom cX5_cameFrom 2 (some .int) 0 0 [.ref (oc 5), .int a1] (wC cI cJ oc ac pa pb aa ab xp xs tp cp mp iv ar la pA pB) (wC cI cJ oc ac pa pb aa ab xp xs tp cp mp ivz arz laz pAz pBz) rz := by
  intro sz
  refine ct_of (by decide) (Nat.le_of_ble_eq_true rfl) ?_
  intro p e s m args below meth c C hw ls hl
  have hl : lv_has ls 2 [(0, .ref (oc 5)), (1, .int a1)] := hl
  have hx := C.1.1
  have hb := C.1.2.1
  unfold mX5_cameFrom at hm
  refine lv_iload_n hx hb dX5_cameFrom_0 rfl (lv_at hl 1 rfl) ?_
  refine lv_if_lt (tgt := 25) hx hb dX5_cameFrom_1 (by decide) (fun hc => ?_) (fun hc => ?_)
  · have hm := it_t hc hm
    refine lv_iconst (v := 0) hx hb dX5_cameFrom_25 ci_0 ?_
    cases hm
    exact g_iret C hw dX5_cameFrom_26
  · have hm := it_f hc hm
    refine lv_iload_n hx hb dX5_cameFrom_4 rfl (lv_at hl 1 rfl) ?_
    refine lv_aload_n hx hb dX5_cameFrom_5 rfl (lv_at hl 0 rfl) ?_
    refine g_get C hw gC5_3 dX5_cameFrom_6 ?_
    refine lv_icmp_ge (tgt := 25) hx hb dX5_cameFrom_9 (by decide) (fun hc => ?_) (fun hc => ?_)
    · have hm := it_t hc hm
      refine lv_iconst (v := 0) hx hb dX5_cameFrom_25 ci_0 ?_
      cases hm
      exact g_iret C hw dX5_cameFrom_26
    · have hm := it_f hc hm
      refine lv_aload_n hx hb dX5_cameFrom_12 rfl (lv_at hl 0 rfl) ?_
      refine g_get C hw gC5_1 dX5_cameFrom_13 ?_
      refine lv_iload_n hx hb dX5_cameFrom_16 rfl (lv_at hl 1 rfl) ?_
      obtain ⟨hi, hm⟩ := it_a hm
      refine g_lald C hw aC5_1 hi dX5_cameFrom_17 ?_
      refine lv_bipush (v := 19) hx hb dX5_cameFrom_18 cb_19 ?_
      refine lv_lshr hx hb dX5_cameFrom_20 rfl ?_
      refine lv_l2i hx hb dX5_cameFrom_21 rfl ?_
      refine lv_goto (tgt := 26) hx hb dX5_cameFrom_22 (by decide) ?_
      cases hm
      exact g_iret C hw dX5_cameFrom_26
def mX5_stepsTo_L4 : Nat → Int32 → Int32 → mI → mA → mL → mA → mA → Option (Int32 × mI × mA × mL × mA × mA)
  | 0, _, _, _, _, _, _, _ => none
  | n + 1, l2, l3, iv, ar, la, pA, pB => if l3 ≤ 0 then some (l2, iv, ar, la, pA, pB) else if (iv 503) ≤ l2 then some (l2, iv, ar, la, pA, pB) else obc (mX5_cameFrom l3 iv ar la pA pB) (fun r21 iv21 ar21 la21 pA21 pB21 => mX5_stepsTo_L4 n (l2 + 1) r21 iv21 ar21 la21 pA21 pB21)
set_option maxRecDepth 100000 in
set_option maxHeartbeats 4000000 in
theorem wX5_stepsTo_L4 (C : mCx p s m args meth c RX5 cX5_stepsTo 4 (some .int) D cI cJ A) (n : Nat) : ∀ (l2 : Int32) (l3 : Int32) (iv : mI) (ar : mA) (la : mL) (pA : mA) (pB : mA) (rz : Int32) (ivz : mI) (arz : mA) (laz : mL) (pAz : mA) (pBz : mA), mX5_stepsTo_L4 n l2 l3 iv ar la pA pB = some (rz, ivz, arz, laz, pAz, pBz) → ∀ (H : Heap) (locs : List Loc) (ls : Array Slot), lv_has ls 4 [(0, .ref (oc 5)), (2, .int l2), (3, .int l3)] → inW D A s (wC cI cJ oc ac pa pb aa ab xp xs tp cp mp iv ar la pA pB) H locs → W p l e (rmO 1 21) s m args below meth c H locs 0 0 (MQ below (ctQ D cI cJ (wC cI cJ oc ac pa pb aa ab xp xs tp cp mp ivz arz laz pAz pBz) A rz) args s 0 0 A) (F0 m 4 ls []) := by
  induction n with
  | zero =>
    intro l2 l3 iv ar la pA pB rz ivz arz laz pAz pBz hm H locs ls hl hw
    have hm : (none : Option (Int32 × mI × mA × mL × mA × mA)) = some _ := hm
    cases hm
  | succ n ih =>
    intro l2 l3 iv ar la pA pB rz ivz arz laz pAz pBz hm H locs ls hl hw
    have hx := C.1.1
    have hb := C.1.2.1
    unfold mX5_stepsTo_L4 at hm
    refine lv_iload_n hx hb dX5_stepsTo_4 rfl (lv_at hl 2 rfl) ?_
    refine lv_if_le (tgt := 28) hx hb dX5_stepsTo_5 (by decide) (fun hc => ?_) (fun hc => ?_)
    · have hm := it_t hc hm
      refine lv_iload_n hx hb dX5_stepsTo_28 rfl (lv_at hl 1 rfl) ?_
      cases hm
      exact g_iret C hw dX5_stepsTo_29
    · have hm := it_f hc hm
      refine lv_iload_n hx hb dX5_stepsTo_8 rfl (lv_at hl 1 rfl) ?_
      refine lv_aload_n hx hb dX5_stepsTo_9 rfl (lv_at hl 0 rfl) ?_
      refine g_get C hw gC5_3 dX5_stepsTo_10 ?_
      refine lv_icmp_ge (tgt := 28) hx hb dX5_stepsTo_13 (by decide) (fun hc => ?_) (fun hc => ?_)
      · have hm := it_t hc hm
        refine lv_iload_n hx hb dX5_stepsTo_28 rfl (lv_at hl 1 rfl) ?_
        cases hm
        exact g_iret C hw dX5_stepsTo_29
      · have hm := it_f hc hm
        refine lv_iinc (v := (l2 + 1)) (lv' := [(2, .int (l2 + 1)), (0, .ref (oc 5)), (3, .int l3)]) hx hb dX5_stepsTo_16 hl (k := 1) rfl (ii_ ci_1) (by decide) rfl (fun ls hl => ?_)
        refine lv_aload_n hx hb dX5_stepsTo_19 rfl (lv_at hl 1 rfl) ?_
        refine lv_iload_n hx hb dX5_stepsTo_20 rfl (lv_at hl 2 rfl) ?_
        obtain ⟨r21, iv21, ar21, la21, pA21, pB21, hc21, hm⟩ := obc_some hm
        refine g_calli (As := [.int l3]) (rest := []) C hw (kX5_cameFrom hc21) mtX5_cameFrom lkX5_31 oC5 hl.1 rfl rfl (Nat.le_of_ble_eq_true rfl) ⟨Nat.le_of_ble_eq_true rfl, Nat.le_of_ble_eq_true rfl⟩ dX5_stepsTo_21 ⟨Nat.zero_le _, Nat.zero_le _⟩ (fun H locs hw => ?_)
        refine lv_istore_n (lv' := [(3, .int r21), (2, .int (l2 + 1)), (0, .ref (oc 5))]) hx hb dX5_stepsTo_24 rfl hl (by decide) rfl (fun ls hl => ?_)
        refine lv_goto (tgt := 4) hx hb dX5_stepsTo_25 (by decide) ?_
        exact ih _ _ _ _ _ _ _ _ _ _ _ _ _ hm _ _ _ (lv_sub hl [2, 1, 0] rfl) hw
def mX5_stepsTo (a1 : Int32) (iv : mI) (ar : mA) (la : mL) (pA : mA) (pB : mA) : Option (Int32 × mI × mA × mL × mA × mA) := mX5_stepsTo_L4 bigF 0 a1 iv ar la pA pB
set_option maxRecDepth 100000 in
set_option maxHeartbeats 4000000 in
theorem kX5_stepsTo {a1 : Int32} {iv ivz : mI} {ar arz : mA} {la laz : mL} {pA pAz : mA} {pB pBz : mA} {rz : Int32} (hm : mX5_stepsTo a1 iv ar la pA pB = some (rz, ivz, arz, laz, pAz, pBz)) : Ct l D cI cJ yX5_stepsTo cX5_stepsTo 4 (some .int) 1 21 [.ref (oc 5), .int a1] (wC cI cJ oc ac pa pb aa ab xp xs tp cp mp iv ar la pA pB) (wC cI cJ oc ac pa pb aa ab xp xs tp cp mp ivz arz laz pAz pBz) rz := by
  intro sz
  refine ct_of (by decide) (Nat.le_of_ble_eq_true rfl) ?_
  intro p e s m args below meth c C hw ls hl
  have hl : lv_has ls 4 [(0, .ref (oc 5)), (1, .int a1)] := hl
  have hx := C.1.1
  have hb := C.1.2.1
  unfold mX5_stepsTo at hm
  refine lv_iconst (v := 0) hx hb dX5_stepsTo_0 ci_0 ?_
  refine lv_istore_n (lv' := [(2, .int 0), (0, .ref (oc 5)), (1, .int a1)]) hx hb dX5_stepsTo_1 rfl hl (by decide) rfl (fun ls hl => ?_)
  refine lv_iload_n hx hb dX5_stepsTo_2 rfl (lv_at hl 2 rfl) ?_
  refine lv_istore_n (lv' := [(3, .int a1), (2, .int 0), (0, .ref (oc 5)), (1, .int a1)]) hx hb dX5_stepsTo_3 rfl hl (by decide) rfl (fun ls hl => ?_)
  exact wX5_stepsTo_L4 C bigF _ _ _ _ _ _ _ _ _ _ _ _ _ hm _ _ _ (lv_sub hl [2, 1, 0] rfl) hw
def mX5_distance (a1 : Int32) (a2 : Int32) (iv : mI) (ar : mA) (la : mL) (pA : mA) (pB : mA) : Option (Int32 × mI × mA × mL × mA × mA) := obc (mX5_search a1 a2 iv ar la pA pB) (fun r3 iv3 ar3 la3 pA3 pB3 => if r3 = (-1) then some ((-1), iv3, ar3, la3, pA3, pB3) else obc (mX5_stepsTo r3 iv3 ar3 la3 pA3 pB3) (fun r18 iv18 ar18 la18 pA18 pB18 => some (r18, iv18, ar18, la18, pA18, pB18)))
set_option maxRecDepth 100000 in
set_option maxHeartbeats 4000000 in
theorem kX5_distance {a1 a2 : Int32} {iv ivz : mI} {ar arz : mA} {la laz : mL} {pA pAz : mA} {pB pBz : mA} {rz : Int32} (hm : mX5_distance a1 a2 iv ar la pA pB = some (rz, ivz, arz, laz, pAz, pBz)) : Ct l D cI cJ yX5_distance cX5_distance 4 (some .int) 3 79 [.ref (oc 5), .int a1, .int a2] (wC cI cJ oc ac pa pb aa ab xp xs tp cp mp iv ar la pA pB) (wC cI cJ oc ac pa pb aa ab xp xs tp cp mp ivz arz laz pAz pBz) rz := by
  intro sz
  refine ct_of (by decide) (Nat.le_of_ble_eq_true rfl) ?_
  intro p e s m args below meth c C hw ls hl
  have hl : lv_has ls 4 [(0, .ref (oc 5)), (1, .int a1), (2, .int a2)] := hl
  have hx := C.1.1
  have hb := C.1.2.1
  unfold mX5_distance at hm
  refine lv_aload_n hx hb dX5_distance_0 rfl (lv_at hl 0 rfl) ?_
  refine lv_iload_n hx hb dX5_distance_1 rfl (lv_at hl 1 rfl) ?_
  refine lv_iload_n hx hb dX5_distance_2 rfl (lv_at hl 2 rfl) ?_
  obtain ⟨r3, iv3, ar3, la3, pA3, pB3, hc3, hm⟩ := obc_some hm
  refine g_calli (As := [.int a1, .int a2]) (rest := []) C hw (kX5_search hc3) mtX5_search lkX5_23 oC5 hl.1 rfl rfl (Nat.le_of_ble_eq_true rfl) ⟨Nat.le_of_ble_eq_true rfl, Nat.le_of_ble_eq_true rfl⟩ dX5_distance_3 ⟨Nat.zero_le _, Nat.zero_le _⟩ (fun H locs hw => ?_)
  refine lv_istore_n (lv' := [(3, .int r3), (0, .ref (oc 5)), (1, .int a1), (2, .int a2)]) hx hb dX5_distance_6 rfl hl (by decide) rfl (fun ls hl => ?_)
  refine lv_iload_n hx hb dX5_distance_7 rfl (lv_at hl 0 rfl) ?_
  refine lv_iconst (v := (-1)) hx hb dX5_distance_8 ci_m1 ?_
  refine lv_icmp_ne (tgt := 16) hx hb dX5_distance_9 (by decide) (fun hc => ?_) (fun hc => ?_)
  · have hm := it_f hc hm
    refine lv_aload_n hx hb dX5_distance_16 rfl (lv_at hl 1 rfl) ?_
    refine lv_iload_n hx hb dX5_distance_17 rfl (lv_at hl 0 rfl) ?_
    obtain ⟨r18, iv18, ar18, la18, pA18, pB18, hc18, hm⟩ := obc_some hm
    refine g_calli (As := [.int r3]) (rest := []) C hw (kX5_stepsTo hc18) mtX5_stepsTo lkX5_27 oC5 hl.1 rfl rfl (Nat.le_of_ble_eq_true rfl) ⟨Nat.le_of_ble_eq_true rfl, Nat.le_of_ble_eq_true rfl⟩ dX5_distance_18 ⟨Nat.zero_le _, Nat.zero_le _⟩ (fun H locs hw => ?_)
    cases hm
    exact g_iret C hw dX5_distance_21
  · have hm := it_t hc hm
    refine lv_iconst (v := (-1)) hx hb dX5_distance_12 ci_m1 ?_
    refine lv_goto (tgt := 21) hx hb dX5_distance_13 (by decide) ?_
    cases hm
    exact g_iret C hw dX5_distance_21
def mX11_depth (a1 : Int32) (a2 : Int32) (iv : mI) (ar : mA) (la : mL) (pA : mA) (pB : mA) : Option (Int32 × mI × mA × mL × mA × mA) := obc (mX3_has a1 iv ar la pA pB) (fun r5 iv5 ar5 la5 pA5 pB5 => if r5 = 0 then some ((-2), iv5, ar5, la5, pA5, pB5) else obc (mX3_has a2 iv5 ar5 la5 pA5 pB5) (fun r16 iv16 ar16 la16 pA16 pB16 => if r16 = 0 then some ((-2), iv16, ar16, la16, pA16, pB16) else obc (mX5_distance a1 a2 iv16 ar16 la16 pA16 pB16) (fun r31 iv31 ar31 la31 pA31 pB31 => some (r31, iv31, ar31, la31, pA31, pB31))))
set_option maxRecDepth 100000 in
set_option maxHeartbeats 4000000 in
theorem kX11_depth {a1 a2 : Int32} {iv ivz : mI} {ar arz : mA} {la laz : mL} {pA pAz : mA} {pB pBz : mA} {rz : Int32} (hm : mX11_depth a1 a2 iv ar la pA pB = some (rz, ivz, arz, laz, pAz, pBz)) : Ct l D cI cJ yX11_depth cX11_depth 3 (some .int) 4 102 [.ref (oc 11), .int a1, .int a2] (wC cI cJ oc ac pa pb aa ab pa pb tp cp mp iv ar la pA pB) (wC cI cJ oc ac pa pb aa ab pa pb tp cp mp ivz arz laz pAz pBz) rz := by
  intro sz
  refine ct_of (by decide) (Nat.le_of_ble_eq_true rfl) ?_
  intro p e s m args below meth c C hw ls hl
  have hl : lv_has ls 3 [(0, .ref (oc 11)), (1, .int a1), (2, .int a2)] := hl
  have hx := C.1.1
  have hb := C.1.2.1
  unfold mX11_depth at hm
  refine lv_aload_n hx hb dX11_depth_0 rfl (lv_at hl 0 rfl) ?_
  refine g_get C hw gC11_1 dX11_depth_1 ?_
  refine lv_iload_n hx hb dX11_depth_4 rfl (lv_at hl 1 rfl) ?_
  obtain ⟨r5, iv5, ar5, la5, pA5, pB5, hc5, hm⟩ := obc_some hm
  refine g_calli (As := [.int a1]) (rest := []) C hw (kX3_has hc5) mtX3_has lkX11_133 oC3 hl.1 rfl rfl (Nat.le_of_ble_eq_true rfl) ⟨Nat.le_of_ble_eq_true rfl, Nat.le_of_ble_eq_true rfl⟩ dX11_depth_5 ⟨Nat.zero_le _, Nat.zero_le _⟩ (fun H locs hw => ?_)
  refine lv_if_eq (tgt := 22) hx hb dX11_depth_8 (by decide) (fun hc => ?_) (fun hc => ?_)
  · have hm := it_t hc hm
    refine lv_bipush (v := (-2)) hx hb dX11_depth_22 cb_m2 ?_
    cases hm
    exact g_iret C hw dX11_depth_24
  · have hm := it_f hc hm
    refine lv_aload_n hx hb dX11_depth_11 rfl (lv_at hl 0 rfl) ?_
    refine g_get C hw gC11_1 dX11_depth_12 ?_
    refine lv_iload_n hx hb dX11_depth_15 rfl (lv_at hl 2 rfl) ?_
    obtain ⟨r16, iv16, ar16, la16, pA16, pB16, hc16, hm⟩ := obc_some hm
    refine g_calli (As := [.int a2]) (rest := []) C hw (kX3_has hc16) mtX3_has lkX11_133 oC3 hl.1 rfl rfl (Nat.le_of_ble_eq_true rfl) ⟨Nat.le_of_ble_eq_true rfl, Nat.le_of_ble_eq_true rfl⟩ dX11_depth_16 ⟨Nat.zero_le _, Nat.zero_le _⟩ (fun H locs hw => ?_)
    refine lv_if_ne (tgt := 25) hx hb dX11_depth_19 (by decide) (fun hc => ?_) (fun hc => ?_)
    · have hm := it_f hc hm
      refine lv_aload_n hx hb dX11_depth_25 rfl (lv_at hl 0 rfl) ?_
      refine g_get C hw gC11_2 dX11_depth_26 ?_
      refine lv_iload_n hx hb dX11_depth_29 rfl (lv_at hl 1 rfl) ?_
      refine lv_iload_n hx hb dX11_depth_30 rfl (lv_at hl 2 rfl) ?_
      obtain ⟨r31, iv31, ar31, la31, pA31, pB31, hc31, hm⟩ := obc_some hm
      refine g_calli (As := [.int a1, .int a2]) (rest := []) C hw (kX5_distance hc31) mtX5_distance lkX11_150 oC5 hl.1 rfl rfl (Nat.le_of_ble_eq_true rfl) ⟨Nat.le_of_ble_eq_true rfl, Nat.le_of_ble_eq_true rfl⟩ dX11_depth_31 ⟨Nat.zero_le _, Nat.zero_le _⟩ (fun H locs hw => ?_)
      cases hm
      exact g_iret C hw dX11_depth_34
    · have hm := it_t hc hm
      refine lv_bipush (v := (-2)) hx hb dX11_depth_22 cb_m2 ?_
      cases hm
      exact g_iret C hw dX11_depth_24
def mX5_labelOnWay_L44 : Nat → Int32 → Int32 → Int32 → mI → mA → mL → mA → mA → Option (Int32 × mI × mA × mL × mA × mA)
  | 0, _, _, _, _, _, _, _, _ => none
  | n + 1, l3, l4, l6, iv, ar, la, pA, pB => if l6 ≤ l3 then if l4 < 0 then some ((-1), iv, ar, la, pA, pB) else if (iv 503) ≤ l4 then some ((-1), iv, ar, la, pA, pB) else if l4 < 0 ∨ 40000 ≤ l4.toNatClampNeg then none else some (((((la 501 l4.toNatClampNeg) >>> (Int32.toInt64 16 &&& 63)) &&& 7).toInt32), iv, ar, la, pA, pB) else obc (mX5_cameFrom l4 iv ar la pA pB) (fun r53 iv53 ar53 la53 pA53 pB53 => mX5_labelOnWay_L44 n l3 r53 (l6 + (-1)) iv53 ar53 la53 pA53 pB53)
set_option maxRecDepth 100000 in
set_option maxHeartbeats 4000000 in
theorem wX5_labelOnWay_L44 (C : mCx p s m args meth c RX5 cX5_labelOnWay 7 (some .int) D cI cJ A) (n : Nat) : ∀ (l3 : Int32) (l4 : Int32) (l6 : Int32) (iv : mI) (ar : mA) (la : mL) (pA : mA) (pB : mA) (rz : Int32) (ivz : mI) (arz : mA) (laz : mL) (pAz : mA) (pBz : mA), mX5_labelOnWay_L44 n l3 l4 l6 iv ar la pA pB = some (rz, ivz, arz, laz, pAz, pBz) → ∀ (H : Heap) (locs : List Loc) (ls : Array Slot), lv_has ls 7 [(0, .ref (oc 5)), (3, .int l3), (4, .int l4), (6, .int l6)] → inW D A s (wC cI cJ oc ac pa pb aa ab xp xs tp cp mp iv ar la pA pB) H locs → W p l e (rmO 3 79) s m args below meth c H locs 0 0 (MQ below (ctQ D cI cJ (wC cI cJ oc ac pa pb aa ab xp xs tp cp mp ivz arz laz pAz pBz) A rz) args s 0 0 A) (F0 m 44 ls []) := by
  induction n with
  | zero =>
    intro l3 l4 l6 iv ar la pA pB rz ivz arz laz pAz pBz hm H locs ls hl hw
    have hm : (none : Option (Int32 × mI × mA × mL × mA × mA)) = some _ := hm
    cases hm
  | succ n ih =>
    intro l3 l4 l6 iv ar la pA pB rz ivz arz laz pAz pBz hm H locs ls hl hw
    have hx := C.1.1
    have hb := C.1.2.1
    have hown := C.1.2.2.2.1
    unfold mX5_labelOnWay_L44 at hm
    refine lv_iload hx hb dX5_labelOnWay_44 (lv_at hl 3 rfl) ?_
    refine lv_iload_n hx hb dX5_labelOnWay_46 rfl (lv_at hl 1 rfl) ?_
    refine lv_icmp_le (tgt := 64) hx hb dX5_labelOnWay_47 (by decide) (fun hc => ?_) (fun hc => ?_)
    · have hm := it_t hc hm
      refine lv_iload hx hb dX5_labelOnWay_64 (lv_at hl 2 rfl) ?_
      refine lv_if_lt (tgt := 96) hx hb dX5_labelOnWay_66 (by decide) (fun hc => ?_) (fun hc => ?_)
      · have hm := it_t hc hm
        refine lv_iconst (v := (-1)) hx hb dX5_labelOnWay_96 ci_m1 ?_
        cases hm
        exact g_iret C hw dX5_labelOnWay_97
      · have hm := it_f hc hm
        refine lv_iload hx hb dX5_labelOnWay_69 (lv_at hl 2 rfl) ?_
        refine lv_aload_n hx hb dX5_labelOnWay_71 rfl (lv_at hl 0 rfl) ?_
        refine g_get C hw gC5_3 dX5_labelOnWay_72 ?_
        refine lv_icmp_ge (tgt := 96) hx hb dX5_labelOnWay_75 (by decide) (fun hc => ?_) (fun hc => ?_)
        · have hm := it_t hc hm
          refine lv_iconst (v := (-1)) hx hb dX5_labelOnWay_96 ci_m1 ?_
          cases hm
          exact g_iret C hw dX5_labelOnWay_97
        · have hm := it_f hc hm
          refine lv_aload_n hx hb dX5_labelOnWay_78 rfl (lv_at hl 0 rfl) ?_
          refine g_get C hw gC5_1 dX5_labelOnWay_79 ?_
          refine lv_iload hx hb dX5_labelOnWay_82 (lv_at hl 2 rfl) ?_
          obtain ⟨hi, hm⟩ := it_a hm
          refine g_lald C hw aC5_1 hi dX5_labelOnWay_84 ?_
          refine lv_bipush (v := 16) hx hb dX5_labelOnWay_85 cb_16 ?_
          refine lv_lshr hx hb dX5_labelOnWay_87 rfl ?_
          refine lv_ldc2 hx hb hown (C.1.2.2.2.2 _ cstX5_38) dX5_labelOnWay_88 ?_
          refine lv_land hx hb dX5_labelOnWay_91 ?_
          refine lv_l2i hx hb dX5_labelOnWay_92 rfl ?_
          refine lv_goto (tgt := 97) hx hb dX5_labelOnWay_93 (by decide) ?_
          cases hm
          exact g_iret C hw dX5_labelOnWay_97
    · have hm := it_f hc hm
      refine lv_aload_n hx hb dX5_labelOnWay_50 rfl (lv_at hl 0 rfl) ?_
      refine lv_iload hx hb dX5_labelOnWay_51 (lv_at hl 2 rfl) ?_
      obtain ⟨r53, iv53, ar53, la53, pA53, pB53, hc53, hm⟩ := obc_some hm
      refine g_calli (As := [.int l4]) (rest := []) C hw (kX5_cameFrom hc53) mtX5_cameFrom lkX5_31 oC5 hl.1 rfl rfl (Nat.le_of_ble_eq_true rfl) ⟨Nat.le_of_ble_eq_true rfl, Nat.le_of_ble_eq_true rfl⟩ dX5_labelOnWay_53 ⟨Nat.zero_le _, Nat.zero_le _⟩ (fun H locs hw => ?_)
      refine lv_istore (lv' := [(4, .int r53), (0, .ref (oc 5)), (3, .int l3), (6, .int l6)]) hx hb dX5_labelOnWay_56 hl (by decide) rfl (fun ls hl => ?_)
      refine lv_iinc (v := (l6 + (-1))) (lv' := [(6, .int (l6 + (-1))), (4, .int r53), (0, .ref (oc 5)), (3, .int l3)]) hx hb dX5_labelOnWay_58 hl (k := 3) rfl (ii_ ci_m1) (by decide) rfl (fun ls hl => ?_)
      refine lv_goto (tgt := 44) hx hb dX5_labelOnWay_61 (by decide) ?_
      exact ih _ _ _ _ _ _ _ _ _ _ _ _ _ _ hm _ _ _ (lv_sub hl [2, 3, 1, 0] rfl) hw
def mX5_labelOnWay_J24 (l3 : Int32) (l4 : Int32) (s0 : Int32) (iv : mI) (ar : mA) (la : mL) (pA : mA) (pB : mA) : Option (Int32 × mI × mA × mL × mA × mA) := if l3 < 0 then some ((-1), iv, ar, la, pA, pB) else if l3 < s0 then mX5_labelOnWay_L44 bigF l3 l4 (s0 - 1) iv ar la pA pB else some ((-1), iv, ar, la, pA, pB)
set_option maxRecDepth 100000 in
set_option maxHeartbeats 4000000 in
theorem wX5_labelOnWay_J24 (C : mCx p s m args meth c RX5 cX5_labelOnWay 7 (some .int) D cI cJ A) : ∀ (l3 : Int32) (l4 : Int32) (s0 : Int32) (iv : mI) (ar : mA) (la : mL) (pA : mA) (pB : mA) (rz : Int32) (ivz : mI) (arz : mA) (laz : mL) (pAz : mA) (pBz : mA), mX5_labelOnWay_J24 l3 l4 s0 iv ar la pA pB = some (rz, ivz, arz, laz, pAz, pBz) → ∀ (H : Heap) (locs : List Loc) (ls : Array Slot), lv_has ls 7 [(0, .ref (oc 5)), (3, .int l3), (4, .int l4)] → inW D A s (wC cI cJ oc ac pa pb aa ab xp xs tp cp mp iv ar la pA pB) H locs → W p l e (rmO 3 79) s m args below meth c H locs 0 0 (MQ below (ctQ D cI cJ (wC cI cJ oc ac pa pb aa ab xp xs tp cp mp ivz arz laz pAz pBz) A rz) args s 0 0 A) (F0 m 24 ls [.int s0]) := by
  intro l3 l4 s0 iv ar la pA pB rz ivz arz laz pAz pBz hm H locs ls hl hw
  have hx := C.1.1
  have hb := C.1.2.1
  unfold mX5_labelOnWay_J24 at hm
  refine lv_istore (lv' := [(5, .int s0), (0, .ref (oc 5)), (3, .int l3), (4, .int l4)]) hx hb dX5_labelOnWay_24 hl (by decide) rfl (fun ls hl => ?_)
  refine lv_iload_n hx hb dX5_labelOnWay_26 rfl (lv_at hl 2 rfl) ?_
  refine lv_if_lt (tgt := 36) hx hb dX5_labelOnWay_27 (by decide) (fun hc => ?_) (fun hc => ?_)
  · have hm := it_t hc hm
    refine lv_iconst (v := (-1)) hx hb dX5_labelOnWay_36 ci_m1 ?_
    cases hm
    exact g_iret C hw dX5_labelOnWay_37
  · have hm := it_f hc hm
    refine lv_iload_n hx hb dX5_labelOnWay_30 rfl (lv_at hl 2 rfl) ?_
    refine lv_iload hx hb dX5_labelOnWay_31 (lv_at hl 0 rfl) ?_
    refine lv_icmp_lt (tgt := 38) hx hb dX5_labelOnWay_33 (by decide) (fun hc => ?_) (fun hc => ?_)
    · have hm := it_t hc hm
      refine lv_iload hx hb dX5_labelOnWay_38 (lv_at hl 0 rfl) ?_
      refine lv_iconst (v := 1) hx hb dX5_labelOnWay_40 ci_1 ?_
      refine lv_isub hx hb dX5_labelOnWay_41 ?_
      refine lv_istore (lv' := [(6, .int (s0 - 1)), (5, .int s0), (0, .ref (oc 5)), (3, .int l3), (4, .int l4)]) hx hb dX5_labelOnWay_42 hl (by decide) rfl (fun ls hl => ?_)
      exact wX5_labelOnWay_L44 C bigF _ _ _ _ _ _ _ _ _ _ _ _ _ _ hm _ _ _ (lv_sub hl [2, 3, 4, 0] rfl) hw
    · have hm := it_f hc hm
      refine lv_iconst (v := (-1)) hx hb dX5_labelOnWay_36 ci_m1 ?_
      cases hm
      exact g_iret C hw dX5_labelOnWay_37
def mX5_labelOnWay (a1 : Int32) (a2 : Int32) (a3 : Int32) (iv : mI) (ar : mA) (la : mL) (pA : mA) (pB : mA) : Option (Int32 × mI × mA × mL × mA × mA) := obc (mX5_search a1 a2 iv ar la pA pB) (fun r3 iv3 ar3 la3 pA3 pB3 => if r3 = (-1) then mX5_labelOnWay_J24 a3 r3 0 iv3 ar3 la3 pA3 pB3 else obc (mX5_stepsTo r3 iv3 ar3 la3 pA3 pB3) (fun r21 iv21 ar21 la21 pA21 pB21 => mX5_labelOnWay_J24 a3 r3 r21 iv21 ar21 la21 pA21 pB21))
set_option maxRecDepth 100000 in
set_option maxHeartbeats 4000000 in
theorem kX5_labelOnWay {a1 a2 a3 : Int32} {iv ivz : mI} {ar arz : mA} {la laz : mL} {pA pAz : mA} {pB pBz : mA} {rz : Int32} (hm : mX5_labelOnWay a1 a2 a3 iv ar la pA pB = some (rz, ivz, arz, laz, pAz, pBz)) : Ct l D cI cJ yX5_labelOnWay cX5_labelOnWay 7 (some .int) 3 79 [.ref (oc 5), .int a1, .int a2, .int a3] (wC cI cJ oc ac pa pb aa ab xp xs tp cp mp iv ar la pA pB) (wC cI cJ oc ac pa pb aa ab xp xs tp cp mp ivz arz laz pAz pBz) rz := by
  intro sz
  refine ct_of (by decide) (Nat.le_of_ble_eq_true rfl) ?_
  intro p e s m args below meth c C hw ls hl
  have hl : lv_has ls 7 [(0, .ref (oc 5)), (1, .int a1), (2, .int a2), (3, .int a3)] := hl
  have hx := C.1.1
  have hb := C.1.2.1
  unfold mX5_labelOnWay at hm
  refine lv_aload_n hx hb dX5_labelOnWay_0 rfl (lv_at hl 0 rfl) ?_
  refine lv_iload_n hx hb dX5_labelOnWay_1 rfl (lv_at hl 1 rfl) ?_
  refine lv_iload_n hx hb dX5_labelOnWay_2 rfl (lv_at hl 2 rfl) ?_
  obtain ⟨r3, iv3, ar3, la3, pA3, pB3, hc3, hm⟩ := obc_some hm
  refine g_calli (As := [.int a1, .int a2]) (rest := []) C hw (kX5_search hc3) mtX5_search lkX5_23 oC5 hl.1 rfl rfl (Nat.le_of_ble_eq_true rfl) ⟨Nat.le_of_ble_eq_true rfl, Nat.le_of_ble_eq_true rfl⟩ dX5_labelOnWay_3 ⟨Nat.zero_le _, Nat.zero_le _⟩ (fun H locs hw => ?_)
  refine lv_istore (lv' := [(4, .int r3), (0, .ref (oc 5)), (1, .int a1), (2, .int a2), (3, .int a3)]) hx hb dX5_labelOnWay_6 hl (by decide) rfl (fun ls hl => ?_)
  refine lv_iload hx hb dX5_labelOnWay_8 (lv_at hl 0 rfl) ?_
  refine lv_iconst (v := (-1)) hx hb dX5_labelOnWay_10 ci_m1 ?_
  refine lv_icmp_ne (tgt := 18) hx hb dX5_labelOnWay_11 (by decide) (fun hc => ?_) (fun hc => ?_)
  · have hm := it_f hc hm
    refine lv_aload_n hx hb dX5_labelOnWay_18 rfl (lv_at hl 1 rfl) ?_
    refine lv_iload hx hb dX5_labelOnWay_19 (lv_at hl 0 rfl) ?_
    obtain ⟨r21, iv21, ar21, la21, pA21, pB21, hc21, hm⟩ := obc_some hm
    refine g_calli (As := [.int r3]) (rest := []) C hw (kX5_stepsTo hc21) mtX5_stepsTo lkX5_27 oC5 hl.1 rfl rfl (Nat.le_of_ble_eq_true rfl) ⟨Nat.le_of_ble_eq_true rfl, Nat.le_of_ble_eq_true rfl⟩ dX5_labelOnWay_21 ⟨Nat.zero_le _, Nat.zero_le _⟩ (fun H locs hw => ?_)
    exact wX5_labelOnWay_J24 C _ _ _ _ _ _ _ _ _ _ _ _ _ _ hm _ _ _ (lv_sub hl [1, 4, 0] rfl) hw
  · have hm := it_t hc hm
    refine lv_iconst (v := 0) hx hb dX5_labelOnWay_14 ci_0 ?_
    refine lv_goto (tgt := 24) hx hb dX5_labelOnWay_15 (by decide) ?_
    exact wX5_labelOnWay_J24 C _ _ _ _ _ _ _ _ _ _ _ _ _ _ hm _ _ _ (lv_sub hl [1, 4, 0] rfl) hw
def mX11_way (a1 : Int32) (a2 : Int32) (a3 : Int32) (iv : mI) (ar : mA) (la : mL) (pA : mA) (pB : mA) : Option (Int32 × mI × mA × mL × mA × mA) := obc (mX3_has a1 iv ar la pA pB) (fun r5 iv5 ar5 la5 pA5 pB5 => if r5 = 0 then some ((-2), iv5, ar5, la5, pA5, pB5) else obc (mX3_has a2 iv5 ar5 la5 pA5 pB5) (fun r16 iv16 ar16 la16 pA16 pB16 => if r16 = 0 then some ((-2), iv16, ar16, la16, pA16, pB16) else obc (mX5_labelOnWay a1 a2 a3 iv16 ar16 la16 pA16 pB16) (fun r32 iv32 ar32 la32 pA32 pB32 => some (r32, iv32, ar32, la32, pA32, pB32))))
set_option maxRecDepth 100000 in
set_option maxHeartbeats 4000000 in
theorem kX11_way {a1 a2 a3 : Int32} {iv ivz : mI} {ar arz : mA} {la laz : mL} {pA pAz : mA} {pB pBz : mA} {rz : Int32} (hm : mX11_way a1 a2 a3 iv ar la pA pB = some (rz, ivz, arz, laz, pAz, pBz)) : Ct l D cI cJ yX11_way cX11_way 4 (some .int) 4 105 [.ref (oc 11), .int a1, .int a2, .int a3] (wC cI cJ oc ac pa pb aa ab pa pb tp cp mp iv ar la pA pB) (wC cI cJ oc ac pa pb aa ab pa pb tp cp mp ivz arz laz pAz pBz) rz := by
  intro sz
  refine ct_of (by decide) (Nat.le_of_ble_eq_true rfl) ?_
  intro p e s m args below meth c C hw ls hl
  have hl : lv_has ls 4 [(0, .ref (oc 11)), (1, .int a1), (2, .int a2), (3, .int a3)] := hl
  have hx := C.1.1
  have hb := C.1.2.1
  unfold mX11_way at hm
  refine lv_aload_n hx hb dX11_way_0 rfl (lv_at hl 0 rfl) ?_
  refine g_get C hw gC11_1 dX11_way_1 ?_
  refine lv_iload_n hx hb dX11_way_4 rfl (lv_at hl 1 rfl) ?_
  obtain ⟨r5, iv5, ar5, la5, pA5, pB5, hc5, hm⟩ := obc_some hm
  refine g_calli (As := [.int a1]) (rest := []) C hw (kX3_has hc5) mtX3_has lkX11_133 oC3 hl.1 rfl rfl (Nat.le_of_ble_eq_true rfl) ⟨Nat.le_of_ble_eq_true rfl, Nat.le_of_ble_eq_true rfl⟩ dX11_way_5 ⟨Nat.zero_le _, Nat.zero_le _⟩ (fun H locs hw => ?_)
  refine lv_if_eq (tgt := 22) hx hb dX11_way_8 (by decide) (fun hc => ?_) (fun hc => ?_)
  · have hm := it_t hc hm
    refine lv_bipush (v := (-2)) hx hb dX11_way_22 cb_m2 ?_
    cases hm
    exact g_iret C hw dX11_way_24
  · have hm := it_f hc hm
    refine lv_aload_n hx hb dX11_way_11 rfl (lv_at hl 0 rfl) ?_
    refine g_get C hw gC11_1 dX11_way_12 ?_
    refine lv_iload_n hx hb dX11_way_15 rfl (lv_at hl 2 rfl) ?_
    obtain ⟨r16, iv16, ar16, la16, pA16, pB16, hc16, hm⟩ := obc_some hm
    refine g_calli (As := [.int a2]) (rest := []) C hw (kX3_has hc16) mtX3_has lkX11_133 oC3 hl.1 rfl rfl (Nat.le_of_ble_eq_true rfl) ⟨Nat.le_of_ble_eq_true rfl, Nat.le_of_ble_eq_true rfl⟩ dX11_way_16 ⟨Nat.zero_le _, Nat.zero_le _⟩ (fun H locs hw => ?_)
    refine lv_if_ne (tgt := 25) hx hb dX11_way_19 (by decide) (fun hc => ?_) (fun hc => ?_)
    · have hm := it_f hc hm
      refine lv_aload_n hx hb dX11_way_25 rfl (lv_at hl 0 rfl) ?_
      refine g_get C hw gC11_2 dX11_way_26 ?_
      refine lv_iload_n hx hb dX11_way_29 rfl (lv_at hl 1 rfl) ?_
      refine lv_iload_n hx hb dX11_way_30 rfl (lv_at hl 2 rfl) ?_
      refine lv_iload_n hx hb dX11_way_31 rfl (lv_at hl 3 rfl) ?_
      obtain ⟨r32, iv32, ar32, la32, pA32, pB32, hc32, hm⟩ := obc_some hm
      refine g_calli (As := [.int a1, .int a2, .int a3]) (rest := []) C hw (kX5_labelOnWay hc32) mtX5_labelOnWay lkX11_153 oC5 hl.1 rfl rfl (Nat.le_of_ble_eq_true rfl) ⟨Nat.le_of_ble_eq_true rfl, Nat.le_of_ble_eq_true rfl⟩ dX11_way_32 ⟨Nat.zero_le _, Nat.zero_le _⟩ (fun H locs hw => ?_)
      cases hm
      exact g_iret C hw dX11_way_35
    · have hm := it_t hc hm
      refine lv_bipush (v := (-2)) hx hb dX11_way_22 cb_m2 ?_
      cases hm
      exact g_iret C hw dX11_way_24
def mX11_unite (a1 : Int32) (a2 : Int32) (iv : mI) (ar : mA) (la : mL) (pA : mA) (pB : mA) : Option (Int32 × mI × mA × mL × mA × mA) := obc (mX3_has a1 iv ar la pA pB) (fun r5 iv5 ar5 la5 pA5 pB5 => if r5 = 0 then some ((-2), iv5, ar5, la5, pA5, pB5) else obc (mX3_has a2 iv5 ar5 la5 pA5 pB5) (fun r16 iv16 ar16 la16 pA16 pB16 => if r16 = 0 then some ((-2), iv16, ar16, la16, pA16, pB16) else obc (mX0_join 0 a1 a2 iv16 ar16 la16 pA16 pB16) (fun r32 iv32 ar32 la32 pA32 pB32 => some (r32, iv32, ar32, la32, pA32, pB32))))
set_option maxRecDepth 100000 in
set_option maxHeartbeats 4000000 in
theorem kX11_unite {a1 a2 : Int32} {iv ivz : mI} {ar arz : mA} {la laz : mL} {pA pAz : mA} {pB pBz : mA} {rz : Int32} (hm : mX11_unite a1 a2 iv ar la pA pB = some (rz, ivz, arz, laz, pAz, pBz)) : Ct l D cI cJ yX11_unite cX11_unite 3 (some .int) 4 104 [.ref (oc 11), .int a1, .int a2] (wC cI cJ oc ac pa pb aa ab pa pb tp cp mp iv ar la pA pB) (wC cI cJ oc ac pa pb aa ab pa pb tp cp mp ivz arz laz pAz pBz) rz := by
  intro sz
  refine ct_of (by decide) (Nat.le_of_ble_eq_true rfl) ?_
  intro p e s m args below meth c C hw ls hl
  have hl : lv_has ls 3 [(0, .ref (oc 11)), (1, .int a1), (2, .int a2)] := hl
  have hx := C.1.1
  have hb := C.1.2.1
  unfold mX11_unite at hm
  refine lv_aload_n hx hb dX11_unite_0 rfl (lv_at hl 0 rfl) ?_
  refine g_get C hw gC11_1 dX11_unite_1 ?_
  refine lv_iload_n hx hb dX11_unite_4 rfl (lv_at hl 1 rfl) ?_
  obtain ⟨r5, iv5, ar5, la5, pA5, pB5, hc5, hm⟩ := obc_some hm
  refine g_calli (As := [.int a1]) (rest := []) C hw (kX3_has hc5) mtX3_has lkX11_133 oC3 hl.1 rfl rfl (Nat.le_of_ble_eq_true rfl) ⟨Nat.le_of_ble_eq_true rfl, Nat.le_of_ble_eq_true rfl⟩ dX11_unite_5 ⟨Nat.zero_le _, Nat.zero_le _⟩ (fun H locs hw => ?_)
  refine lv_if_eq (tgt := 22) hx hb dX11_unite_8 (by decide) (fun hc => ?_) (fun hc => ?_)
  · have hm := it_t hc hm
    refine lv_bipush (v := (-2)) hx hb dX11_unite_22 cb_m2 ?_
    cases hm
    exact g_iret C hw dX11_unite_24
  · have hm := it_f hc hm
    refine lv_aload_n hx hb dX11_unite_11 rfl (lv_at hl 0 rfl) ?_
    refine g_get C hw gC11_1 dX11_unite_12 ?_
    refine lv_iload_n hx hb dX11_unite_15 rfl (lv_at hl 2 rfl) ?_
    obtain ⟨r16, iv16, ar16, la16, pA16, pB16, hc16, hm⟩ := obc_some hm
    refine g_calli (As := [.int a2]) (rest := []) C hw (kX3_has hc16) mtX3_has lkX11_133 oC3 hl.1 rfl rfl (Nat.le_of_ble_eq_true rfl) ⟨Nat.le_of_ble_eq_true rfl, Nat.le_of_ble_eq_true rfl⟩ dX11_unite_16 ⟨Nat.zero_le _, Nat.zero_le _⟩ (fun H locs hw => ?_)
    refine lv_if_ne (tgt := 25) hx hb dX11_unite_19 (by decide) (fun hc => ?_) (fun hc => ?_)
    · have hm := it_f hc hm
      refine lv_aload_n hx hb dX11_unite_25 rfl (lv_at hl 0 rfl) ?_
      refine g_get C hw gC11_3 dX11_unite_26 ?_
      refine lv_iconst (v := 0) hx hb dX11_unite_29 ci_0 ?_
      refine lv_iload_n hx hb dX11_unite_30 rfl (lv_at hl 1 rfl) ?_
      refine lv_iload_n hx hb dX11_unite_31 rfl (lv_at hl 2 rfl) ?_
      obtain ⟨r32, iv32, ar32, la32, pA32, pB32, hc32, hm⟩ := obc_some hm
      refine g_calli (As := [.int 0, .int a1, .int a2]) (rest := []) C hw (kX0_join hc32) mtX0_join lkX11_157 oC0 hl.1 rfl rfl (Nat.le_of_ble_eq_true rfl) ⟨Nat.le_of_ble_eq_true rfl, Nat.le_of_ble_eq_true rfl⟩ dX11_unite_32 ⟨Nat.zero_le _, Nat.zero_le _⟩ (fun H locs hw => ?_)
      cases hm
      exact g_iret C hw dX11_unite_35
    · have hm := it_t hc hm
      refine lv_bipush (v := (-2)) hx hb dX11_unite_22 cb_m2 ?_
      cases hm
      exact g_iret C hw dX11_unite_24
def mX11_meet (a1 : Int32) (a2 : Int32) (iv : mI) (ar : mA) (la : mL) (pA : mA) (pB : mA) : Option (Int32 × mI × mA × mL × mA × mA) := obc (mX3_has a1 iv ar la pA pB) (fun r5 iv5 ar5 la5 pA5 pB5 => if r5 = 0 then some ((-2), iv5, ar5, la5, pA5, pB5) else obc (mX3_has a2 iv5 ar5 la5 pA5 pB5) (fun r16 iv16 ar16 la16 pA16 pB16 => if r16 = 0 then some ((-2), iv16, ar16, la16, pA16, pB16) else obc (mX0_join 1 a1 a2 iv16 ar16 la16 pA16 pB16) (fun r32 iv32 ar32 la32 pA32 pB32 => some (r32, iv32, ar32, la32, pA32, pB32))))
set_option maxRecDepth 100000 in
set_option maxHeartbeats 4000000 in
theorem kX11_meet {a1 a2 : Int32} {iv ivz : mI} {ar arz : mA} {la laz : mL} {pA pAz : mA} {pB pBz : mA} {rz : Int32} (hm : mX11_meet a1 a2 iv ar la pA pB = some (rz, ivz, arz, laz, pAz, pBz)) : Ct l D cI cJ yX11_meet cX11_meet 3 (some .int) 4 104 [.ref (oc 11), .int a1, .int a2] (wC cI cJ oc ac pa pb aa ab pa pb tp cp mp iv ar la pA pB) (wC cI cJ oc ac pa pb aa ab pa pb tp cp mp ivz arz laz pAz pBz) rz := by
  intro sz
  refine ct_of (by decide) (Nat.le_of_ble_eq_true rfl) ?_
  intro p e s m args below meth c C hw ls hl
  have hl : lv_has ls 3 [(0, .ref (oc 11)), (1, .int a1), (2, .int a2)] := hl
  have hx := C.1.1
  have hb := C.1.2.1
  unfold mX11_meet at hm
  refine lv_aload_n hx hb dX11_meet_0 rfl (lv_at hl 0 rfl) ?_
  refine g_get C hw gC11_1 dX11_meet_1 ?_
  refine lv_iload_n hx hb dX11_meet_4 rfl (lv_at hl 1 rfl) ?_
  obtain ⟨r5, iv5, ar5, la5, pA5, pB5, hc5, hm⟩ := obc_some hm
  refine g_calli (As := [.int a1]) (rest := []) C hw (kX3_has hc5) mtX3_has lkX11_133 oC3 hl.1 rfl rfl (Nat.le_of_ble_eq_true rfl) ⟨Nat.le_of_ble_eq_true rfl, Nat.le_of_ble_eq_true rfl⟩ dX11_meet_5 ⟨Nat.zero_le _, Nat.zero_le _⟩ (fun H locs hw => ?_)
  refine lv_if_eq (tgt := 22) hx hb dX11_meet_8 (by decide) (fun hc => ?_) (fun hc => ?_)
  · have hm := it_t hc hm
    refine lv_bipush (v := (-2)) hx hb dX11_meet_22 cb_m2 ?_
    cases hm
    exact g_iret C hw dX11_meet_24
  · have hm := it_f hc hm
    refine lv_aload_n hx hb dX11_meet_11 rfl (lv_at hl 0 rfl) ?_
    refine g_get C hw gC11_1 dX11_meet_12 ?_
    refine lv_iload_n hx hb dX11_meet_15 rfl (lv_at hl 2 rfl) ?_
    obtain ⟨r16, iv16, ar16, la16, pA16, pB16, hc16, hm⟩ := obc_some hm
    refine g_calli (As := [.int a2]) (rest := []) C hw (kX3_has hc16) mtX3_has lkX11_133 oC3 hl.1 rfl rfl (Nat.le_of_ble_eq_true rfl) ⟨Nat.le_of_ble_eq_true rfl, Nat.le_of_ble_eq_true rfl⟩ dX11_meet_16 ⟨Nat.zero_le _, Nat.zero_le _⟩ (fun H locs hw => ?_)
    refine lv_if_ne (tgt := 25) hx hb dX11_meet_19 (by decide) (fun hc => ?_) (fun hc => ?_)
    · have hm := it_f hc hm
      refine lv_aload_n hx hb dX11_meet_25 rfl (lv_at hl 0 rfl) ?_
      refine g_get C hw gC11_3 dX11_meet_26 ?_
      refine lv_iconst (v := 1) hx hb dX11_meet_29 ci_1 ?_
      refine lv_iload_n hx hb dX11_meet_30 rfl (lv_at hl 1 rfl) ?_
      refine lv_iload_n hx hb dX11_meet_31 rfl (lv_at hl 2 rfl) ?_
      obtain ⟨r32, iv32, ar32, la32, pA32, pB32, hc32, hm⟩ := obc_some hm
      refine g_calli (As := [.int 1, .int a1, .int a2]) (rest := []) C hw (kX0_join hc32) mtX0_join lkX11_157 oC0 hl.1 rfl rfl (Nat.le_of_ble_eq_true rfl) ⟨Nat.le_of_ble_eq_true rfl, Nat.le_of_ble_eq_true rfl⟩ dX11_meet_32 ⟨Nat.zero_le _, Nat.zero_le _⟩ (fun H locs hw => ?_)
      cases hm
      exact g_iret C hw dX11_meet_35
    · have hm := it_t hc hm
      refine lv_bipush (v := (-2)) hx hb dX11_meet_22 cb_m2 ?_
      cases hm
      exact g_iret C hw dX11_meet_24
def mX4_want (a1 : Int32) (a2 : Int32) (iv : mI) (ar : mA) (la : mL) (pA : mA) (pB : mA) : Option (Int32 × mI × mA × mL × mA × mA) := some (0, va_up (va_up iv 409 a1) 410 a2, ar, la, pA, pB)
set_option maxRecDepth 100000 in
set_option maxHeartbeats 4000000 in
theorem kX4_want {a1 a2 : Int32} {iv ivz : mI} {ar arz : mA} {la laz : mL} {pA pAz : mA} {pB pBz : mA} {rz : Int32} (hm : mX4_want a1 a2 iv ar la pA pB = some (rz, ivz, arz, laz, pAz, pBz)) : CtV l D cI cJ yX4_want cX4_want 3 0 0 [.ref (oc 4), .int a1, .int a2] (wC cI cJ oc ac pa pb aa ab xp xs tp cp pa iv ar la pA pB) (wC cI cJ oc ac pa pb aa ab xp xs tp cp pa ivz arz laz pAz pBz) := by
  intro sz
  refine ct_of (by decide) (Nat.le_of_ble_eq_true rfl) ?_
  intro p e s m args below meth c C hw ls hl
  have hl : lv_has ls 3 [(0, .ref (oc 4)), (1, .int a1), (2, .int a2)] := hl
  have hx := C.1.1
  have hb := C.1.2.1
  unfold mX4_want at hm
  refine lv_aload_n hx hb dX4_want_0 rfl (lv_at hl 0 rfl) ?_
  refine lv_iload_n hx hb dX4_want_1 rfl (lv_at hl 1 rfl) ?_
  refine g_put C hw pC4_9 dX4_want_2 (fun H locs hw => ?_)
  refine lv_aload_n hx hb dX4_want_5 rfl (lv_at hl 0 rfl) ?_
  refine lv_iload_n hx hb dX4_want_6 rfl (lv_at hl 2 rfl) ?_
  refine g_put C hw pC4_10 dX4_want_7 (fun H locs hw => ?_)
  cases hm
  exact g_vret C hw dX4_want_10
def mX6_wordA (a1 : Int32) (iv : mI) (ar : mA) (la : mL) (pA : mA) (pB : mA) : Option (Int32 × mI × mA × mL × mA × mA) := if a1 < 0 then some ((-1), iv, ar, la, pA, pB) else if 200 ≤ a1 then some ((-1), iv, ar, la, pA, pB) else if a1 < 0 ∨ 200 ≤ a1.toNatClampNeg then none else some ((pA 0 a1.toNatClampNeg), iv, ar, la, pA, pB)
set_option maxRecDepth 100000 in
set_option maxHeartbeats 4000000 in
theorem kX6_wordA {a1 : Int32} {iv ivz : mI} {ar arz : mA} {la laz : mL} {pA pAz : mA} {pB pBz : mA} {rz : Int32} (hm : mX6_wordA a1 iv ar la pA pB = some (rz, ivz, arz, laz, pAz, pBz)) : Ct l D cI cJ yX6_word cX6_word 2 (some .int) 0 0 [.ref pa, .int a1] (wC cI cJ oc ac pa pb aa ab xp xs tp cp mp iv ar la pA pB) (wC cI cJ oc ac pa pb aa ab xp xs tp cp mp ivz arz laz pAz pBz) rz := by
  intro sz
  refine ct_of (by decide) (Nat.le_of_ble_eq_true rfl) ?_
  intro p e s m args below meth c C hw ls hl
  have hl : lv_has ls 2 [(0, .ref pa), (1, .int a1)] := hl
  have hx := C.1.1
  have hb := C.1.2.1
  unfold mX6_wordA at hm
  refine lv_iload_n hx hb dX6_word_0 rfl (lv_at hl 1 rfl) ?_
  refine lv_if_lt (tgt := 20) hx hb dX6_word_1 (by decide) (fun hc => ?_) (fun hc => ?_)
  · have hm := it_t hc hm
    refine lv_iconst (v := (-1)) hx hb dX6_word_20 ci_m1 ?_
    cases hm
    exact g_iret C hw dX6_word_21
  · have hm := it_f hc hm
    refine lv_iload_n hx hb dX6_word_4 rfl (lv_at hl 1 rfl) ?_
    refine lv_sipush (v := 200) hx hb dX6_word_5 cs_200 ?_
    refine lv_icmp_ge (tgt := 20) hx hb dX6_word_8 (by decide) (fun hc => ?_) (fun hc => ?_)
    · have hm := it_t hc hm
      refine lv_iconst (v := (-1)) hx hb dX6_word_20 ci_m1 ?_
      cases hm
      exact g_iret C hw dX6_word_21
    · have hm := it_f hc hm
      refine lv_aload_n hx hb dX6_word_11 rfl (lv_at hl 0 rfl) ?_
      refine g_get C hw gC6A_0 dX6_word_12 ?_
      refine lv_iload_n hx hb dX6_word_15 rfl (lv_at hl 1 rfl) ?_
      obtain ⟨hi, hm⟩ := it_a hm
      refine g_ald C hw aC6A_0 hi dX6_word_16 ?_
      refine lv_goto (tgt := 21) hx hb dX6_word_17 (by decide) ?_
      cases hm
      exact g_iret C hw dX6_word_21
def mX6_kidCountA (a1 : Int32) (iv : mI) (ar : mA) (la : mL) (pA : mA) (pB : mA) : Option (Int32 × mI × mA × mL × mA × mA) := if a1 < 0 then some (0, iv, ar, la, pA, pB) else if 200 ≤ a1 then some (0, iv, ar, la, pA, pB) else if a1 < 0 ∨ 200 ≤ a1.toNatClampNeg then none else some ((pA 2 a1.toNatClampNeg), iv, ar, la, pA, pB)
set_option maxRecDepth 100000 in
set_option maxHeartbeats 4000000 in
theorem kX6_kidCountA {a1 : Int32} {iv ivz : mI} {ar arz : mA} {la laz : mL} {pA pAz : mA} {pB pBz : mA} {rz : Int32} (hm : mX6_kidCountA a1 iv ar la pA pB = some (rz, ivz, arz, laz, pAz, pBz)) : Ct l D cI cJ yX6_kidCount cX6_kidCount 2 (some .int) 0 0 [.ref pa, .int a1] (wC cI cJ oc ac pa pb aa ab xp xs tp cp mp iv ar la pA pB) (wC cI cJ oc ac pa pb aa ab xp xs tp cp mp ivz arz laz pAz pBz) rz := by
  intro sz
  refine ct_of (by decide) (Nat.le_of_ble_eq_true rfl) ?_
  intro p e s m args below meth c C hw ls hl
  have hl : lv_has ls 2 [(0, .ref pa), (1, .int a1)] := hl
  have hx := C.1.1
  have hb := C.1.2.1
  unfold mX6_kidCountA at hm
  refine lv_iload_n hx hb dX6_kidCount_0 rfl (lv_at hl 1 rfl) ?_
  refine lv_if_lt (tgt := 20) hx hb dX6_kidCount_1 (by decide) (fun hc => ?_) (fun hc => ?_)
  · have hm := it_t hc hm
    refine lv_iconst (v := 0) hx hb dX6_kidCount_20 ci_0 ?_
    cases hm
    exact g_iret C hw dX6_kidCount_21
  · have hm := it_f hc hm
    refine lv_iload_n hx hb dX6_kidCount_4 rfl (lv_at hl 1 rfl) ?_
    refine lv_sipush (v := 200) hx hb dX6_kidCount_5 cs_200 ?_
    refine lv_icmp_ge (tgt := 20) hx hb dX6_kidCount_8 (by decide) (fun hc => ?_) (fun hc => ?_)
    · have hm := it_t hc hm
      refine lv_iconst (v := 0) hx hb dX6_kidCount_20 ci_0 ?_
      cases hm
      exact g_iret C hw dX6_kidCount_21
    · have hm := it_f hc hm
      refine lv_aload_n hx hb dX6_kidCount_11 rfl (lv_at hl 0 rfl) ?_
      refine g_get C hw gC6A_2 dX6_kidCount_12 ?_
      refine lv_iload_n hx hb dX6_kidCount_15 rfl (lv_at hl 1 rfl) ?_
      obtain ⟨hi, hm⟩ := it_a hm
      refine g_ald C hw aC6A_2 hi dX6_kidCount_16 ?_
      refine lv_goto (tgt := 21) hx hb dX6_kidCount_17 (by decide) ?_
      cases hm
      exact g_iret C hw dX6_kidCount_21
def mX4_neededBy (a1 : Int32) (iv : mI) (ar : mA) (la : mL) (pA : mA) (pB : mA) : Option (Int32 × mI × mA × mL × mA × mA) := obc (mX6_wordA a1 iv ar la pA pB) (fun r5 iv5 ar5 la5 pA5 pB5 => if r5 = 28 then some (1, iv5, ar5, la5, pA5, pB5) else if r5 = 32 then some (1, iv5, ar5, la5, pA5, pB5) else obc (mX6_kidCountA a1 iv5 ar5 la5 pA5 pB5) (fun r30 iv30 ar30 la30 pA30 pB30 => some (r30, iv30, ar30, la30, pA30, pB30)))
set_option maxRecDepth 100000 in
set_option maxHeartbeats 4000000 in
theorem kX4_neededBy {a1 : Int32} {iv ivz : mI} {ar arz : mA} {la laz : mL} {pA pAz : mA} {pB pBz : mA} {rz : Int32} (hm : mX4_neededBy a1 iv ar la pA pB = some (rz, ivz, arz, laz, pAz, pBz)) : Ct l D cI cJ yX4_neededBy cX4_neededBy 3 (some .int) 1 21 [.ref (oc 4), .int a1] (wC cI cJ oc ac pa pb aa ab xp xs tp cp pa iv ar la pA pB) (wC cI cJ oc ac pa pb aa ab xp xs tp cp pa ivz arz laz pAz pBz) rz := by
  intro sz
  refine ct_of (by decide) (Nat.le_of_ble_eq_true rfl) ?_
  intro p e s m args below meth c C hw ls hl
  have hl : lv_has ls 3 [(0, .ref (oc 4)), (1, .int a1)] := hl
  have hx := C.1.1
  have hb := C.1.2.1
  unfold mX4_neededBy at hm
  refine lv_aload_n hx hb dX4_neededBy_0 rfl (lv_at hl 0 rfl) ?_
  refine g_get C hw gC4_2 dX4_neededBy_1 ?_
  refine lv_iload_n hx hb dX4_neededBy_4 rfl (lv_at hl 1 rfl) ?_
  obtain ⟨r5, iv5, ar5, la5, pA5, pB5, hc5, hm⟩ := obc_some hm
  refine g_calli (As := [.int a1]) (rest := []) C hw (kX6_wordA hc5) mtX6_word lkX4_79 oC6A hl.1 rfl rfl (Nat.le_of_ble_eq_true rfl) ⟨Nat.le_of_ble_eq_true rfl, Nat.le_of_ble_eq_true rfl⟩ dX4_neededBy_5 ⟨Nat.zero_le _, Nat.zero_le _⟩ (fun H locs hw => ?_)
  refine lv_istore_n (lv' := [(2, .int r5), (0, .ref (oc 4)), (1, .int a1)]) hx hb dX4_neededBy_8 rfl hl (by decide) rfl (fun ls hl => ?_)
  refine lv_iload_n hx hb dX4_neededBy_9 rfl (lv_at hl 0 rfl) ?_
  refine lv_bipush (v := 28) hx hb dX4_neededBy_10 cb_28 ?_
  refine lv_icmp_eq (tgt := 21) hx hb dX4_neededBy_12 (by decide) (fun hc => ?_) (fun hc => ?_)
  · have hm := it_t hc hm
    refine lv_iconst (v := 1) hx hb dX4_neededBy_21 ci_1 ?_
    refine lv_goto (tgt := 33) hx hb dX4_neededBy_22 (by decide) ?_
    cases hm
    exact g_iret C hw dX4_neededBy_33
  · have hm := it_f hc hm
    refine lv_iload_n hx hb dX4_neededBy_15 rfl (lv_at hl 0 rfl) ?_
    refine lv_bipush (v := 32) hx hb dX4_neededBy_16 cb_32 ?_
    refine lv_icmp_ne (tgt := 25) hx hb dX4_neededBy_18 (by decide) (fun hc => ?_) (fun hc => ?_)
    · have hm := it_f hc hm
      refine lv_aload_n hx hb dX4_neededBy_25 rfl (lv_at hl 1 rfl) ?_
      refine g_get C hw gC4_2 dX4_neededBy_26 ?_
      refine lv_iload_n hx hb dX4_neededBy_29 rfl (lv_at hl 2 rfl) ?_
      obtain ⟨r30, iv30, ar30, la30, pA30, pB30, hc30, hm⟩ := obc_some hm
      refine g_calli (As := [.int a1]) (rest := []) C hw (kX6_kidCountA hc30) mtX6_kidCount lkX4_113 oC6A hl.1 rfl rfl (Nat.le_of_ble_eq_true rfl) ⟨Nat.le_of_ble_eq_true rfl, Nat.le_of_ble_eq_true rfl⟩ dX4_neededBy_30 ⟨Nat.zero_le _, Nat.zero_le _⟩ (fun H locs hw => ?_)
      cases hm
      exact g_iret C hw dX4_neededBy_33
    · have hm := it_t hc hm
      refine lv_iconst (v := 1) hx hb dX4_neededBy_21 ci_1 ?_
      refine lv_goto (tgt := 33) hx hb dX4_neededBy_22 (by decide) ?_
      cases hm
      exact g_iret C hw dX4_neededBy_33
def mX6_kidA_J26 (l1 : Int32) (l2 : Int32) (s0 : Int32) (iv : mI) (ar : mA) (la : mL) (pA : mA) (pB : mA) : Option (Int32 × mI × mA × mL × mA × mA) := if s0 = 0 then some ((-1), iv, ar, la, pA, pB) else if l1 < 0 ∨ 200 ≤ l1.toNatClampNeg then none else if (pA 2 l1.toNatClampNeg) ≤ l2 then some ((-1), iv, ar, la, pA, pB) else if ((l1 * 9) + l2) < 0 ∨ 1800 ≤ ((l1 * 9) + l2).toNatClampNeg then none else some ((pA 1 ((l1 * 9) + l2).toNatClampNeg), iv, ar, la, pA, pB)
set_option maxRecDepth 100000 in
set_option maxHeartbeats 4000000 in
theorem wX6_kidA_J26 (C : mCx p s m args meth c RX6 cX6_kid 4 (some .int) D cI cJ A) : ∀ (l1 : Int32) (l2 : Int32) (s0 : Int32) (iv : mI) (ar : mA) (la : mL) (pA : mA) (pB : mA) (rz : Int32) (ivz : mI) (arz : mA) (laz : mL) (pAz : mA) (pBz : mA), mX6_kidA_J26 l1 l2 s0 iv ar la pA pB = some (rz, ivz, arz, laz, pAz, pBz) → ∀ (H : Heap) (locs : List Loc) (ls : Array Slot), lv_has ls 4 [(0, .ref pa), (1, .int l1), (2, .int l2)] → inW D A s (wC cI cJ oc ac pa pb aa ab xp xs tp cp mp iv ar la pA pB) H locs → W p l e (rmO 0 0) s m args below meth c H locs 0 0 (MQ below (ctQ D cI cJ (wC cI cJ oc ac pa pb aa ab xp xs tp cp mp ivz arz laz pAz pBz) A rz) args s 0 0 A) (F0 m 26 ls [.int s0]) := by
  intro l1 l2 s0 iv ar la pA pB rz ivz arz laz pAz pBz hm H locs ls hl hw
  have hx := C.1.1
  have hb := C.1.2.1
  unfold mX6_kidA_J26 at hm
  refine lv_istore_n (lv' := [(3, .int s0), (0, .ref pa), (1, .int l1), (2, .int l2)]) hx hb dX6_kid_26 rfl hl (by decide) rfl (fun ls hl => ?_)
  refine lv_iload_n hx hb dX6_kid_27 rfl (lv_at hl 0 rfl) ?_
  refine lv_if_eq (tgt := 55) hx hb dX6_kid_28 (by decide) (fun hc => ?_) (fun hc => ?_)
  · have hm := it_t hc hm
    refine lv_iconst (v := (-1)) hx hb dX6_kid_55 ci_m1 ?_
    cases hm
    exact g_iret C hw dX6_kid_56
  · have hm := it_f hc hm
    refine lv_iload_n hx hb dX6_kid_31 rfl (lv_at hl 3 rfl) ?_
    refine lv_aload_n hx hb dX6_kid_32 rfl (lv_at hl 1 rfl) ?_
    refine g_get C hw gC6A_2 dX6_kid_33 ?_
    refine lv_iload_n hx hb dX6_kid_36 rfl (lv_at hl 2 rfl) ?_
    obtain ⟨hi, hm⟩ := it_a hm
    refine g_ald C hw aC6A_2 hi dX6_kid_37 ?_
    refine lv_icmp_ge (tgt := 55) hx hb dX6_kid_38 (by decide) (fun hc => ?_) (fun hc => ?_)
    · have hm := it_t hc hm
      refine lv_iconst (v := (-1)) hx hb dX6_kid_55 ci_m1 ?_
      cases hm
      exact g_iret C hw dX6_kid_56
    · have hm := it_f hc hm
      refine lv_aload_n hx hb dX6_kid_41 rfl (lv_at hl 1 rfl) ?_
      refine g_get C hw gC6A_1 dX6_kid_42 ?_
      refine lv_iload_n hx hb dX6_kid_45 rfl (lv_at hl 2 rfl) ?_
      refine lv_bipush (v := 9) hx hb dX6_kid_46 cb_9 ?_
      refine lv_imul hx hb dX6_kid_48 ?_
      refine lv_iload_n hx hb dX6_kid_49 rfl (lv_at hl 3 rfl) ?_
      refine lv_iadd hx hb dX6_kid_50 ?_
      obtain ⟨hi, hm⟩ := it_a hm
      refine g_ald C hw aC6A_1 hi dX6_kid_51 ?_
      refine lv_goto (tgt := 56) hx hb dX6_kid_52 (by decide) ?_
      cases hm
      exact g_iret C hw dX6_kid_56
def mX6_kidA (a1 : Int32) (a2 : Int32) (iv : mI) (ar : mA) (la : mL) (pA : mA) (pB : mA) : Option (Int32 × mI × mA × mL × mA × mA) := if a1 < 0 then mX6_kidA_J26 a1 a2 0 iv ar la pA pB else if 200 ≤ a1 then mX6_kidA_J26 a1 a2 0 iv ar la pA pB else if a2 < 0 then mX6_kidA_J26 a1 a2 0 iv ar la pA pB else if 9 ≤ a2 then mX6_kidA_J26 a1 a2 0 iv ar la pA pB else mX6_kidA_J26 a1 a2 1 iv ar la pA pB
set_option maxRecDepth 100000 in
set_option maxHeartbeats 4000000 in
theorem kX6_kidA {a1 a2 : Int32} {iv ivz : mI} {ar arz : mA} {la laz : mL} {pA pAz : mA} {pB pBz : mA} {rz : Int32} (hm : mX6_kidA a1 a2 iv ar la pA pB = some (rz, ivz, arz, laz, pAz, pBz)) : Ct l D cI cJ yX6_kid cX6_kid 4 (some .int) 0 0 [.ref pa, .int a1, .int a2] (wC cI cJ oc ac pa pb aa ab xp xs tp cp mp iv ar la pA pB) (wC cI cJ oc ac pa pb aa ab xp xs tp cp mp ivz arz laz pAz pBz) rz := by
  intro sz
  refine ct_of (by decide) (Nat.le_of_ble_eq_true rfl) ?_
  intro p e s m args below meth c C hw ls hl
  have hl : lv_has ls 4 [(0, .ref pa), (1, .int a1), (2, .int a2)] := hl
  have hx := C.1.1
  have hb := C.1.2.1
  unfold mX6_kidA at hm
  refine lv_iload_n hx hb dX6_kid_0 rfl (lv_at hl 1 rfl) ?_
  refine lv_if_lt (tgt := 25) hx hb dX6_kid_1 (by decide) (fun hc => ?_) (fun hc => ?_)
  · have hm := it_t hc hm
    refine lv_iconst (v := 0) hx hb dX6_kid_25 ci_0 ?_
    exact wX6_kidA_J26 C _ _ _ _ _ _ _ _ _ _ _ _ _ _ hm _ _ _ (lv_sub hl [0, 1, 2] rfl) hw
  · have hm := it_f hc hm
    refine lv_iload_n hx hb dX6_kid_4 rfl (lv_at hl 1 rfl) ?_
    refine lv_sipush (v := 200) hx hb dX6_kid_5 cs_200 ?_
    refine lv_icmp_ge (tgt := 25) hx hb dX6_kid_8 (by decide) (fun hc => ?_) (fun hc => ?_)
    · have hm := it_t hc hm
      refine lv_iconst (v := 0) hx hb dX6_kid_25 ci_0 ?_
      exact wX6_kidA_J26 C _ _ _ _ _ _ _ _ _ _ _ _ _ _ hm _ _ _ (lv_sub hl [0, 1, 2] rfl) hw
    · have hm := it_f hc hm
      refine lv_iload_n hx hb dX6_kid_11 rfl (lv_at hl 2 rfl) ?_
      refine lv_if_lt (tgt := 25) hx hb dX6_kid_12 (by decide) (fun hc => ?_) (fun hc => ?_)
      · have hm := it_t hc hm
        refine lv_iconst (v := 0) hx hb dX6_kid_25 ci_0 ?_
        exact wX6_kidA_J26 C _ _ _ _ _ _ _ _ _ _ _ _ _ _ hm _ _ _ (lv_sub hl [0, 1, 2] rfl) hw
      · have hm := it_f hc hm
        refine lv_iload_n hx hb dX6_kid_15 rfl (lv_at hl 2 rfl) ?_
        refine lv_bipush (v := 9) hx hb dX6_kid_16 cb_9 ?_
        refine lv_icmp_ge (tgt := 25) hx hb dX6_kid_18 (by decide) (fun hc => ?_) (fun hc => ?_)
        · have hm := it_t hc hm
          refine lv_iconst (v := 0) hx hb dX6_kid_25 ci_0 ?_
          exact wX6_kidA_J26 C _ _ _ _ _ _ _ _ _ _ _ _ _ _ hm _ _ _ (lv_sub hl [0, 1, 2] rfl) hw
        · have hm := it_f hc hm
          refine lv_iconst (v := 1) hx hb dX6_kid_21 ci_1 ?_
          refine lv_goto (tgt := 26) hx hb dX6_kid_22 (by decide) ?_
          exact wX6_kidA_J26 C _ _ _ _ _ _ _ _ _ _ _ _ _ _ hm _ _ _ (lv_sub hl [0, 1, 2] rfl) hw
def mX6_kidInTurnA (a1 : Int32) (a2 : Int32) (iv : mI) (ar : mA) (la : mL) (pA : mA) (pB : mA) : Option (Int32 × mI × mA × mL × mA × mA) := obc (mX6_kidCountA a1 iv ar la pA pB) (fun r2 iv2 ar2 la2 pA2 pB2 => obc (mX6_wordA a1 iv2 ar2 la2 pA2 pB2) (fun r8 iv8 ar8 la8 pA8 pB8 => if r8 = 32 then if a2 < r2 then if a2 = 0 then obc (mX6_kidA a1 (r2 - 1) iv8 ar8 la8 pA8 pB8) (fun r37 iv37 ar37 la37 pA37 pB37 => some (r37, iv37, ar37, la37, pA37, pB37)) else obc (mX6_kidA a1 (a2 - 1) iv8 ar8 la8 pA8 pB8) (fun r48 iv48 ar48 la48 pA48 pB48 => some (r48, iv48, ar48, la48, pA48, pB48)) else obc (mX6_kidA a1 a2 iv8 ar8 la8 pA8 pB8) (fun r24 iv24 ar24 la24 pA24 pB24 => some (r24, iv24, ar24, la24, pA24, pB24)) else obc (mX6_kidA a1 a2 iv8 ar8 la8 pA8 pB8) (fun r24 iv24 ar24 la24 pA24 pB24 => some (r24, iv24, ar24, la24, pA24, pB24))))
set_option maxRecDepth 100000 in
set_option maxHeartbeats 4000000 in
theorem kX6_kidInTurnA {a1 a2 : Int32} {iv ivz : mI} {ar arz : mA} {la laz : mL} {pA pAz : mA} {pB pBz : mA} {rz : Int32} (hm : mX6_kidInTurnA a1 a2 iv ar la pA pB = some (rz, ivz, arz, laz, pAz, pBz)) : Ct l D cI cJ yX6_kidInTurn cX6_kidInTurn 4 (some .int) 1 23 [.ref pa, .int a1, .int a2] (wC cI cJ oc ac pa pb aa ab xp xs tp cp mp iv ar la pA pB) (wC cI cJ oc ac pa pb aa ab xp xs tp cp mp ivz arz laz pAz pBz) rz := by
  intro sz
  refine ct_of (by decide) (Nat.le_of_ble_eq_true rfl) ?_
  intro p e s m args below meth c C hw ls hl
  have hl : lv_has ls 4 [(0, .ref pa), (1, .int a1), (2, .int a2)] := hl
  have hx := C.1.1
  have hb := C.1.2.1
  unfold mX6_kidInTurnA at hm
  refine lv_aload_n hx hb dX6_kidInTurn_0 rfl (lv_at hl 0 rfl) ?_
  refine lv_iload_n hx hb dX6_kidInTurn_1 rfl (lv_at hl 1 rfl) ?_
  obtain ⟨r2, iv2, ar2, la2, pA2, pB2, hc2, hm⟩ := obc_some hm
  refine g_calli (As := [.int a1]) (rest := []) C hw (kX6_kidCountA hc2) mtX6_kidCount lkX6_33 oC6A hl.1 rfl rfl (Nat.le_of_ble_eq_true rfl) ⟨Nat.le_of_ble_eq_true rfl, Nat.le_of_ble_eq_true rfl⟩ dX6_kidInTurn_2 ⟨Nat.zero_le _, Nat.zero_le _⟩ (fun H locs hw => ?_)
  refine lv_istore_n (lv' := [(3, .int r2), (0, .ref pa), (1, .int a1), (2, .int a2)]) hx hb dX6_kidInTurn_5 rfl hl (by decide) rfl (fun ls hl => ?_)
  refine lv_aload_n hx hb dX6_kidInTurn_6 rfl (lv_at hl 1 rfl) ?_
  refine lv_iload_n hx hb dX6_kidInTurn_7 rfl (lv_at hl 2 rfl) ?_
  obtain ⟨r8, iv8, ar8, la8, pA8, pB8, hc8, hm⟩ := obc_some hm
  refine g_calli (As := [.int a1]) (rest := []) C hw (kX6_wordA hc8) mtX6_word lkX6_37 oC6A hl.1 rfl rfl (Nat.le_of_ble_eq_true rfl) ⟨Nat.le_of_ble_eq_true rfl, Nat.le_of_ble_eq_true rfl⟩ dX6_kidInTurn_8 ⟨Nat.zero_le _, Nat.zero_le _⟩ (fun H locs hw => ?_)
  refine lv_bipush (v := 32) hx hb dX6_kidInTurn_11 cb_32 ?_
  refine lv_icmp_ne (tgt := 21) hx hb dX6_kidInTurn_13 (by decide) (fun hc => ?_) (fun hc => ?_)
  · have hm := it_f hc hm
    refine lv_aload_n hx hb dX6_kidInTurn_21 rfl (lv_at hl 1 rfl) ?_
    refine lv_iload_n hx hb dX6_kidInTurn_22 rfl (lv_at hl 2 rfl) ?_
    refine lv_iload_n hx hb dX6_kidInTurn_23 rfl (lv_at hl 3 rfl) ?_
    obtain ⟨r24, iv24, ar24, la24, pA24, pB24, hc24, hm⟩ := obc_some hm
    refine g_calli (As := [.int a1, .int a2]) (rest := []) C hw (kX6_kidA hc24) mtX6_kid lkX6_40 oC6A hl.1 rfl rfl (Nat.le_of_ble_eq_true rfl) ⟨Nat.le_of_ble_eq_true rfl, Nat.le_of_ble_eq_true rfl⟩ dX6_kidInTurn_24 ⟨Nat.zero_le _, Nat.zero_le _⟩ (fun H locs hw => ?_)
    cases hm
    exact g_iret C hw dX6_kidInTurn_27
  · have hm := it_t hc hm
    refine lv_iload_n hx hb dX6_kidInTurn_16 rfl (lv_at hl 3 rfl) ?_
    refine lv_iload_n hx hb dX6_kidInTurn_17 rfl (lv_at hl 0 rfl) ?_
    refine lv_icmp_lt (tgt := 28) hx hb dX6_kidInTurn_18 (by decide) (fun hc => ?_) (fun hc => ?_)
    · have hm := it_t hc hm
      refine lv_iload_n hx hb dX6_kidInTurn_28 rfl (lv_at hl 3 rfl) ?_
      refine lv_if_ne (tgt := 43) hx hb dX6_kidInTurn_29 (by decide) (fun hc => ?_) (fun hc => ?_)
      · have hm := it_f hc hm
        refine lv_aload_n hx hb dX6_kidInTurn_43 rfl (lv_at hl 1 rfl) ?_
        refine lv_iload_n hx hb dX6_kidInTurn_44 rfl (lv_at hl 2 rfl) ?_
        refine lv_iload_n hx hb dX6_kidInTurn_45 rfl (lv_at hl 3 rfl) ?_
        refine lv_iconst (v := 1) hx hb dX6_kidInTurn_46 ci_1 ?_
        refine lv_isub hx hb dX6_kidInTurn_47 ?_
        obtain ⟨r48, iv48, ar48, la48, pA48, pB48, hc48, hm⟩ := obc_some hm
        refine g_calli (As := [.int a1, .int (a2 - 1)]) (rest := []) C hw (kX6_kidA hc48) mtX6_kid lkX6_40 oC6A hl.1 rfl rfl (Nat.le_of_ble_eq_true rfl) ⟨Nat.le_of_ble_eq_true rfl, Nat.le_of_ble_eq_true rfl⟩ dX6_kidInTurn_48 ⟨Nat.zero_le _, Nat.zero_le _⟩ (fun H locs hw => ?_)
        cases hm
        exact g_iret C hw dX6_kidInTurn_51
      · have hm := it_t hc hm
        refine lv_aload_n hx hb dX6_kidInTurn_32 rfl (lv_at hl 1 rfl) ?_
        refine lv_iload_n hx hb dX6_kidInTurn_33 rfl (lv_at hl 2 rfl) ?_
        refine lv_iload_n hx hb dX6_kidInTurn_34 rfl (lv_at hl 0 rfl) ?_
        refine lv_iconst (v := 1) hx hb dX6_kidInTurn_35 ci_1 ?_
        refine lv_isub hx hb dX6_kidInTurn_36 ?_
        obtain ⟨r37, iv37, ar37, la37, pA37, pB37, hc37, hm⟩ := obc_some hm
        refine g_calli (As := [.int a1, .int (r2 - 1)]) (rest := []) C hw (kX6_kidA hc37) mtX6_kid lkX6_40 oC6A hl.1 rfl rfl (Nat.le_of_ble_eq_true rfl) ⟨Nat.le_of_ble_eq_true rfl, Nat.le_of_ble_eq_true rfl⟩ dX6_kidInTurn_37 ⟨Nat.zero_le _, Nat.zero_le _⟩ (fun H locs hw => ?_)
        refine lv_goto (tgt := 51) hx hb dX6_kidInTurn_40 (by decide) ?_
        cases hm
        exact g_iret C hw dX6_kidInTurn_51
    · have hm := it_f hc hm
      refine lv_aload_n hx hb dX6_kidInTurn_21 rfl (lv_at hl 1 rfl) ?_
      refine lv_iload_n hx hb dX6_kidInTurn_22 rfl (lv_at hl 2 rfl) ?_
      refine lv_iload_n hx hb dX6_kidInTurn_23 rfl (lv_at hl 3 rfl) ?_
      obtain ⟨r24, iv24, ar24, la24, pA24, pB24, hc24, hm⟩ := obc_some hm
      refine g_calli (As := [.int a1, .int a2]) (rest := []) C hw (kX6_kidA hc24) mtX6_kid lkX6_40 oC6A hl.1 rfl rfl (Nat.le_of_ble_eq_true rfl) ⟨Nat.le_of_ble_eq_true rfl, Nat.le_of_ble_eq_true rfl⟩ dX6_kidInTurn_24 ⟨Nat.zero_le _, Nat.zero_le _⟩ (fun H locs hw => ?_)
      cases hm
      exact g_iret C hw dX6_kidInTurn_27
def mX4_gottenBy (a1 : Int32) (a2 : Int32) (iv : mI) (ar : mA) (la : mL) (pA : mA) (pB : mA) : Option (Int32 × mI × mA × mL × mA × mA) := if a1 < 0 then some ((-1), iv, ar, la, pA, pB) else if 300 ≤ a1 then some ((-1), iv, ar, la, pA, pB) else if a2 < 0 then some ((-1), iv, ar, la, pA, pB) else if 8 ≤ a2 then some ((-1), iv, ar, la, pA, pB) else if ((a1 * 8) + a2) < 0 ∨ 2400 ≤ ((a1 * 8) + a2).toNatClampNeg then none else some ((ar 406 ((a1 * 8) + a2).toNatClampNeg), iv, ar, la, pA, pB)
set_option maxRecDepth 100000 in
set_option maxHeartbeats 4000000 in
theorem kX4_gottenBy {a1 a2 : Int32} {iv ivz : mI} {ar arz : mA} {la laz : mL} {pA pAz : mA} {pB pBz : mA} {rz : Int32} (hm : mX4_gottenBy a1 a2 iv ar la pA pB = some (rz, ivz, arz, laz, pAz, pBz)) : Ct l D cI cJ yX4_gottenBy cX4_gottenBy 3 (some .int) 0 0 [.ref (oc 4), .int a1, .int a2] (wC cI cJ oc ac pa pb aa ab xp xs tp cp pa iv ar la pA pB) (wC cI cJ oc ac pa pb aa ab xp xs tp cp pa ivz arz laz pAz pBz) rz := by
  intro sz
  refine ct_of (by decide) (Nat.le_of_ble_eq_true rfl) ?_
  intro p e s m args below meth c C hw ls hl
  have hl : lv_has ls 3 [(0, .ref (oc 4)), (1, .int a1), (2, .int a2)] := hl
  have hx := C.1.1
  have hb := C.1.2.1
  unfold mX4_gottenBy at hm
  refine lv_iload_n hx hb dX4_gottenBy_0 rfl (lv_at hl 1 rfl) ?_
  refine lv_if_lt (tgt := 35) hx hb dX4_gottenBy_1 (by decide) (fun hc => ?_) (fun hc => ?_)
  · have hm := it_t hc hm
    refine lv_iconst (v := (-1)) hx hb dX4_gottenBy_35 ci_m1 ?_
    cases hm
    exact g_iret C hw dX4_gottenBy_36
  · have hm := it_f hc hm
    refine lv_iload_n hx hb dX4_gottenBy_4 rfl (lv_at hl 1 rfl) ?_
    refine lv_sipush (v := 300) hx hb dX4_gottenBy_5 cs_300 ?_
    refine lv_icmp_ge (tgt := 35) hx hb dX4_gottenBy_8 (by decide) (fun hc => ?_) (fun hc => ?_)
    · have hm := it_t hc hm
      refine lv_iconst (v := (-1)) hx hb dX4_gottenBy_35 ci_m1 ?_
      cases hm
      exact g_iret C hw dX4_gottenBy_36
    · have hm := it_f hc hm
      refine lv_iload_n hx hb dX4_gottenBy_11 rfl (lv_at hl 2 rfl) ?_
      refine lv_if_lt (tgt := 35) hx hb dX4_gottenBy_12 (by decide) (fun hc => ?_) (fun hc => ?_)
      · have hm := it_t hc hm
        refine lv_iconst (v := (-1)) hx hb dX4_gottenBy_35 ci_m1 ?_
        cases hm
        exact g_iret C hw dX4_gottenBy_36
      · have hm := it_f hc hm
        refine lv_iload_n hx hb dX4_gottenBy_15 rfl (lv_at hl 2 rfl) ?_
        refine lv_bipush (v := 8) hx hb dX4_gottenBy_16 cb_8 ?_
        refine lv_icmp_ge (tgt := 35) hx hb dX4_gottenBy_18 (by decide) (fun hc => ?_) (fun hc => ?_)
        · have hm := it_t hc hm
          refine lv_iconst (v := (-1)) hx hb dX4_gottenBy_35 ci_m1 ?_
          cases hm
          exact g_iret C hw dX4_gottenBy_36
        · have hm := it_f hc hm
          refine lv_aload_n hx hb dX4_gottenBy_21 rfl (lv_at hl 0 rfl) ?_
          refine g_get C hw gC4_6 dX4_gottenBy_22 ?_
          refine lv_iload_n hx hb dX4_gottenBy_25 rfl (lv_at hl 1 rfl) ?_
          refine lv_bipush (v := 8) hx hb dX4_gottenBy_26 cb_8 ?_
          refine lv_imul hx hb dX4_gottenBy_28 ?_
          refine lv_iload_n hx hb dX4_gottenBy_29 rfl (lv_at hl 2 rfl) ?_
          refine lv_iadd hx hb dX4_gottenBy_30 ?_
          obtain ⟨hi, hm⟩ := it_a hm
          refine g_ald C hw aC4_6 hi dX4_gottenBy_31 ?_
          refine lv_goto (tgt := 36) hx hb dX4_gottenBy_32 (by decide) ?_
          cases hm
          exact g_iret C hw dX4_gottenBy_36
def mX10_has (a1 : Int32) (iv : mI) (ar : mA) (la : mL) (pA : mA) (pB : mA) : Option (Int32 × mI × mA × mL × mA × mA) := if a1 < 0 then some (0, iv, ar, la, pA, pB) else if (iv 1005) ≤ a1 then some (0, iv, ar, la, pA, pB) else some (1, iv, ar, la, pA, pB)
set_option maxRecDepth 100000 in
set_option maxHeartbeats 4000000 in
theorem kX10_has {a1 : Int32} {iv ivz : mI} {ar arz : mA} {la laz : mL} {pA pAz : mA} {pB pBz : mA} {rz : Int32} (hm : mX10_has a1 iv ar la pA pB = some (rz, ivz, arz, laz, pAz, pBz)) : Ct l D cI cJ yX10_has cX10_has 2 (some .boolean) 0 0 [.ref (oc 10), .int a1] (wC cI cJ oc ac pa pb aa ab xp xs tp cp mp iv ar la pA pB) (wC cI cJ oc ac pa pb aa ab xp xs tp cp mp ivz arz laz pAz pBz) rz := by
  intro sz
  refine ct_of (by decide) (Nat.le_of_ble_eq_true rfl) ?_
  intro p e s m args below meth c C hw ls hl
  have hl : lv_has ls 2 [(0, .ref (oc 10)), (1, .int a1)] := hl
  have hx := C.1.1
  have hb := C.1.2.1
  unfold mX10_has at hm
  refine lv_iload_n hx hb dX10_has_0 rfl (lv_at hl 1 rfl) ?_
  refine lv_if_lt (tgt := 16) hx hb dX10_has_1 (by decide) (fun hc => ?_) (fun hc => ?_)
  · have hm := it_t hc hm
    refine lv_iconst (v := 0) hx hb dX10_has_16 ci_0 ?_
    cases hm
    exact g_zret C hw (Or.inl rfl) dX10_has_17
  · have hm := it_f hc hm
    refine lv_iload_n hx hb dX10_has_4 rfl (lv_at hl 1 rfl) ?_
    refine lv_aload_n hx hb dX10_has_5 rfl (lv_at hl 0 rfl) ?_
    refine g_get C hw gC10_5 dX10_has_6 ?_
    refine lv_icmp_ge (tgt := 16) hx hb dX10_has_9 (by decide) (fun hc => ?_) (fun hc => ?_)
    · have hm := it_t hc hm
      refine lv_iconst (v := 0) hx hb dX10_has_16 ci_0 ?_
      cases hm
      exact g_zret C hw (Or.inl rfl) dX10_has_17
    · have hm := it_f hc hm
      refine lv_iconst (v := 1) hx hb dX10_has_12 ci_1 ?_
      refine lv_goto (tgt := 17) hx hb dX10_has_13 (by decide) ?_
      cases hm
      exact g_zret C hw (Or.inr rfl) dX10_has_17
def mX10_lambdaOf (a1 : Int32) (iv : mI) (ar : mA) (la : mL) (pA : mA) (pB : mA) : Option (Int32 × mI × mA × mL × mA × mA) := obc (mX10_has a1 iv ar la pA pB) (fun r2 iv2 ar2 la2 pA2 pB2 => if r2 = 0 then some ((-1), iv2, ar2, la2, pA2, pB2) else if a1 < 0 ∨ 2000 ≤ a1.toNatClampNeg then none else some ((ar2 1003 a1.toNatClampNeg), iv2, ar2, la2, pA2, pB2))
set_option maxRecDepth 100000 in
set_option maxHeartbeats 4000000 in
theorem kX10_lambdaOf {a1 : Int32} {iv ivz : mI} {ar arz : mA} {la laz : mL} {pA pAz : mA} {pB pBz : mA} {rz : Int32} (hm : mX10_lambdaOf a1 iv ar la pA pB = some (rz, ivz, arz, laz, pAz, pBz)) : Ct l D cI cJ yX10_lambdaOf cX10_lambdaOf 2 (some .int) 1 21 [.ref (oc 10), .int a1] (wC cI cJ oc ac pa pb aa ab xp xs tp cp mp iv ar la pA pB) (wC cI cJ oc ac pa pb aa ab xp xs tp cp mp ivz arz laz pAz pBz) rz := by
  intro sz
  refine ct_of (by decide) (Nat.le_of_ble_eq_true rfl) ?_
  intro p e s m args below meth c C hw ls hl
  have hl : lv_has ls 2 [(0, .ref (oc 10)), (1, .int a1)] := hl
  have hx := C.1.1
  have hb := C.1.2.1
  unfold mX10_lambdaOf at hm
  refine lv_aload_n hx hb dX10_lambdaOf_0 rfl (lv_at hl 0 rfl) ?_
  refine lv_iload_n hx hb dX10_lambdaOf_1 rfl (lv_at hl 1 rfl) ?_
  obtain ⟨r2, iv2, ar2, la2, pA2, pB2, hc2, hm⟩ := obc_some hm
  refine g_calli (As := [.int a1]) (rest := []) C hw (kX10_has hc2) mtX10_has lkX10_31 oC10 hl.1 rfl rfl (Nat.le_of_ble_eq_true rfl) ⟨Nat.le_of_ble_eq_true rfl, Nat.le_of_ble_eq_true rfl⟩ dX10_lambdaOf_2 ⟨Nat.zero_le _, Nat.zero_le _⟩ (fun H locs hw => ?_)
  refine lv_if_eq (tgt := 17) hx hb dX10_lambdaOf_5 (by decide) (fun hc => ?_) (fun hc => ?_)
  · have hm := it_t hc hm
    refine lv_iconst (v := (-1)) hx hb dX10_lambdaOf_17 ci_m1 ?_
    cases hm
    exact g_iret C hw dX10_lambdaOf_18
  · have hm := it_f hc hm
    refine lv_aload_n hx hb dX10_lambdaOf_8 rfl (lv_at hl 0 rfl) ?_
    refine g_get C hw gC10_3 dX10_lambdaOf_9 ?_
    refine lv_iload_n hx hb dX10_lambdaOf_12 rfl (lv_at hl 1 rfl) ?_
    obtain ⟨hi, hm⟩ := it_a hm
    refine g_ald C hw aC10_3 hi dX10_lambdaOf_13 ?_
    refine lv_goto (tgt := 18) hx hb dX10_lambdaOf_14 (by decide) ?_
    cases hm
    exact g_iret C hw dX10_lambdaOf_18
def mX10_cellOf (a1 : Int32) (iv : mI) (ar : mA) (la : mL) (pA : mA) (pB : mA) : Option (Int32 × mI × mA × mL × mA × mA) := obc (mX10_has a1 iv ar la pA pB) (fun r2 iv2 ar2 la2 pA2 pB2 => if r2 = 0 then some ((-1), iv2, ar2, la2, pA2, pB2) else if a1 < 0 ∨ 2000 ≤ a1.toNatClampNeg then none else some ((ar2 1004 a1.toNatClampNeg), iv2, ar2, la2, pA2, pB2))
set_option maxRecDepth 100000 in
set_option maxHeartbeats 4000000 in
theorem kX10_cellOf {a1 : Int32} {iv ivz : mI} {ar arz : mA} {la laz : mL} {pA pAz : mA} {pB pBz : mA} {rz : Int32} (hm : mX10_cellOf a1 iv ar la pA pB = some (rz, ivz, arz, laz, pAz, pBz)) : Ct l D cI cJ yX10_cellOf cX10_cellOf 2 (some .int) 1 21 [.ref (oc 10), .int a1] (wC cI cJ oc ac pa pb aa ab xp xs tp cp mp iv ar la pA pB) (wC cI cJ oc ac pa pb aa ab xp xs tp cp mp ivz arz laz pAz pBz) rz := by
  intro sz
  refine ct_of (by decide) (Nat.le_of_ble_eq_true rfl) ?_
  intro p e s m args below meth c C hw ls hl
  have hl : lv_has ls 2 [(0, .ref (oc 10)), (1, .int a1)] := hl
  have hx := C.1.1
  have hb := C.1.2.1
  unfold mX10_cellOf at hm
  refine lv_aload_n hx hb dX10_cellOf_0 rfl (lv_at hl 0 rfl) ?_
  refine lv_iload_n hx hb dX10_cellOf_1 rfl (lv_at hl 1 rfl) ?_
  obtain ⟨r2, iv2, ar2, la2, pA2, pB2, hc2, hm⟩ := obc_some hm
  refine g_calli (As := [.int a1]) (rest := []) C hw (kX10_has hc2) mtX10_has lkX10_31 oC10 hl.1 rfl rfl (Nat.le_of_ble_eq_true rfl) ⟨Nat.le_of_ble_eq_true rfl, Nat.le_of_ble_eq_true rfl⟩ dX10_cellOf_2 ⟨Nat.zero_le _, Nat.zero_le _⟩ (fun H locs hw => ?_)
  refine lv_if_eq (tgt := 17) hx hb dX10_cellOf_5 (by decide) (fun hc => ?_) (fun hc => ?_)
  · have hm := it_t hc hm
    refine lv_iconst (v := (-1)) hx hb dX10_cellOf_17 ci_m1 ?_
    cases hm
    exact g_iret C hw dX10_cellOf_18
  · have hm := it_f hc hm
    refine lv_aload_n hx hb dX10_cellOf_8 rfl (lv_at hl 0 rfl) ?_
    refine g_get C hw gC10_4 dX10_cellOf_9 ?_
    refine lv_iload_n hx hb dX10_cellOf_12 rfl (lv_at hl 1 rfl) ?_
    obtain ⟨hi, hm⟩ := it_a hm
    refine g_ald C hw aC10_4 hi dX10_cellOf_13 ?_
    refine lv_goto (tgt := 18) hx hb dX10_cellOf_14 (by decide) ?_
    cases hm
    exact g_iret C hw dX10_cellOf_18
def mX1_add (a1 : Int32) (a2 : Int32) (iv : mI) (ar : mA) (la : mL) (pA : mA) (pB : mA) : Option (Int32 × mI × mA × mL × mA × mA) := if (iv 102) < 20000 then if (iv 102) < 0 ∨ 20000 ≤ (iv 102).toNatClampNeg then none else if (iv 102) < 0 ∨ 20000 ≤ (iv 102).toNatClampNeg then none else some ((((va_up iv 102 ((iv 102) + 1)) 102) - 1), va_up iv 102 ((iv 102) + 1), au (au ar 100 (iv 102).toNatClampNeg a1) 101 (iv 102).toNatClampNeg a2, la, pA, pB) else some ((-1), iv, ar, la, pA, pB)
set_option maxRecDepth 100000 in
set_option maxHeartbeats 4000000 in
theorem kX1_add {a1 a2 : Int32} {iv ivz : mI} {ar arz : mA} {la laz : mL} {pA pAz : mA} {pB pBz : mA} {rz : Int32} (hm : mX1_add a1 a2 iv ar la pA pB = some (rz, ivz, arz, laz, pAz, pBz)) : Ct l D cI cJ yX1_add cX1_add 3 (some .int) 0 0 [.ref (oc 1), .int a1, .int a2] (wC cI cJ oc ac pa pb aa ab xp xs tp cp mp iv ar la pA pB) (wC cI cJ oc ac pa pb aa ab xp xs tp cp mp ivz arz laz pAz pBz) rz := by
  intro sz
  refine ct_of (by decide) (Nat.le_of_ble_eq_true rfl) ?_
  intro p e s m args below meth c C hw ls hl
  have hl : lv_has ls 3 [(0, .ref (oc 1)), (1, .int a1), (2, .int a2)] := hl
  have hx := C.1.1
  have hb := C.1.2.1
  unfold mX1_add at hm
  refine lv_aload_n hx hb dX1_add_0 rfl (lv_at hl 0 rfl) ?_
  refine g_get C hw gC1_2 dX1_add_1 ?_
  refine lv_sipush (v := 20000) hx hb dX1_add_4 cs_20000 ?_
  refine lv_icmp_lt (tgt := 12) hx hb dX1_add_7 (by decide) (fun hc => ?_) (fun hc => ?_)
  · have hm := it_t hc hm
    refine lv_aload_n hx hb dX1_add_12 rfl (lv_at hl 0 rfl) ?_
    refine g_get C hw gC1_0 dX1_add_13 ?_
    refine lv_aload_n hx hb dX1_add_16 rfl (lv_at hl 0 rfl) ?_
    refine g_get C hw gC1_2 dX1_add_17 ?_
    refine lv_iload_n hx hb dX1_add_20 rfl (lv_at hl 1 rfl) ?_
    obtain ⟨hi, hm⟩ := it_a hm
    refine g_ast C hw sC1_0 hi dX1_add_21 (fun H locs hw => ?_)
    refine lv_aload_n hx hb dX1_add_22 rfl (lv_at hl 0 rfl) ?_
    refine g_get C hw gC1_1 dX1_add_23 ?_
    refine lv_aload_n hx hb dX1_add_26 rfl (lv_at hl 0 rfl) ?_
    refine g_get C hw gC1_2 dX1_add_27 ?_
    refine lv_iload_n hx hb dX1_add_30 rfl (lv_at hl 2 rfl) ?_
    obtain ⟨hi, hm⟩ := it_a hm
    refine g_ast C hw sC1_1 hi dX1_add_31 (fun H locs hw => ?_)
    refine lv_aload_n hx hb dX1_add_32 rfl (lv_at hl 0 rfl) ?_
    refine lv_dup hx hb dX1_add_33 rfl ?_
    refine g_get C hw gC1_2 dX1_add_34 ?_
    refine lv_iconst (v := 1) hx hb dX1_add_37 ci_1 ?_
    refine lv_iadd hx hb dX1_add_38 ?_
    refine g_put C hw pC1_2 dX1_add_39 (fun H locs hw => ?_)
    refine lv_aload_n hx hb dX1_add_42 rfl (lv_at hl 0 rfl) ?_
    refine g_get C hw gC1_2 dX1_add_43 ?_
    refine lv_iconst (v := 1) hx hb dX1_add_46 ci_1 ?_
    refine lv_isub hx hb dX1_add_47 ?_
    cases hm
    exact g_iret C hw dX1_add_48
  · have hm := it_f hc hm
    refine lv_iconst (v := (-1)) hx hb dX1_add_10 ci_m1 ?_
    cases hm
    exact g_iret C hw dX1_add_11
def mX10_numberOf (a1 : Int32) (iv : mI) (ar : mA) (la : mL) (pA : mA) (pB : mA) : Option (Int32 × mI × mA × mL × mA × mA) := obc (mX10_has a1 iv ar la pA pB) (fun r2 iv2 ar2 la2 pA2 pB2 => if r2 = 0 then some (0, iv2, ar2, la2, pA2, pB2) else if a1 < 0 ∨ 2000 ≤ a1.toNatClampNeg then none else some ((ar2 1001 a1.toNatClampNeg), iv2, ar2, la2, pA2, pB2))
set_option maxRecDepth 100000 in
set_option maxHeartbeats 4000000 in
theorem kX10_numberOf {a1 : Int32} {iv ivz : mI} {ar arz : mA} {la laz : mL} {pA pAz : mA} {pB pBz : mA} {rz : Int32} (hm : mX10_numberOf a1 iv ar la pA pB = some (rz, ivz, arz, laz, pAz, pBz)) : Ct l D cI cJ yX10_numberOf cX10_numberOf 2 (some .int) 1 21 [.ref (oc 10), .int a1] (wC cI cJ oc ac pa pb aa ab xp xs tp cp mp iv ar la pA pB) (wC cI cJ oc ac pa pb aa ab xp xs tp cp mp ivz arz laz pAz pBz) rz := by
  intro sz
  refine ct_of (by decide) (Nat.le_of_ble_eq_true rfl) ?_
  intro p e s m args below meth c C hw ls hl
  have hl : lv_has ls 2 [(0, .ref (oc 10)), (1, .int a1)] := hl
  have hx := C.1.1
  have hb := C.1.2.1
  unfold mX10_numberOf at hm
  refine lv_aload_n hx hb dX10_numberOf_0 rfl (lv_at hl 0 rfl) ?_
  refine lv_iload_n hx hb dX10_numberOf_1 rfl (lv_at hl 1 rfl) ?_
  obtain ⟨r2, iv2, ar2, la2, pA2, pB2, hc2, hm⟩ := obc_some hm
  refine g_calli (As := [.int a1]) (rest := []) C hw (kX10_has hc2) mtX10_has lkX10_31 oC10 hl.1 rfl rfl (Nat.le_of_ble_eq_true rfl) ⟨Nat.le_of_ble_eq_true rfl, Nat.le_of_ble_eq_true rfl⟩ dX10_numberOf_2 ⟨Nat.zero_le _, Nat.zero_le _⟩ (fun H locs hw => ?_)
  refine lv_if_eq (tgt := 17) hx hb dX10_numberOf_5 (by decide) (fun hc => ?_) (fun hc => ?_)
  · have hm := it_t hc hm
    refine lv_iconst (v := 0) hx hb dX10_numberOf_17 ci_0 ?_
    cases hm
    exact g_iret C hw dX10_numberOf_18
  · have hm := it_f hc hm
    refine lv_aload_n hx hb dX10_numberOf_8 rfl (lv_at hl 0 rfl) ?_
    refine g_get C hw gC10_1 dX10_numberOf_9 ?_
    refine lv_iload_n hx hb dX10_numberOf_12 rfl (lv_at hl 1 rfl) ?_
    obtain ⟨hi, hm⟩ := it_a hm
    refine g_ald C hw aC10_1 hi dX10_numberOf_13 ?_
    refine lv_goto (tgt := 18) hx hb dX10_numberOf_14 (by decide) ?_
    cases hm
    exact g_iret C hw dX10_numberOf_18
def mX10_add (a1 : Int32) (a2 : Int32) (iv : mI) (ar : mA) (la : mL) (pA : mA) (pB : mA) : Option (Int32 × mI × mA × mL × mA × mA) := if (iv 1005) < 2000 then if (iv 1005) < 0 ∨ 2000 ≤ (iv 1005).toNatClampNeg then none else if (iv 1005) < 0 ∨ 2000 ≤ (iv 1005).toNatClampNeg then none else if (iv 1005) < 0 ∨ 2000 ≤ (iv 1005).toNatClampNeg then none else if (iv 1005) < 0 ∨ 2000 ≤ (iv 1005).toNatClampNeg then none else some ((((va_up iv 1005 ((iv 1005) + 1)) 1005) - 1), va_up iv 1005 ((iv 1005) + 1), au (au (au (au ar 1000 (iv 1005).toNatClampNeg a1) 1001 (iv 1005).toNatClampNeg a2) 1003 (iv 1005).toNatClampNeg (-1)) 1004 (iv 1005).toNatClampNeg (-1), la, pA, pB) else some ((-1), iv, ar, la, pA, pB)
set_option maxRecDepth 100000 in
set_option maxHeartbeats 4000000 in
theorem kX10_add {a1 a2 : Int32} {iv ivz : mI} {ar arz : mA} {la laz : mL} {pA pAz : mA} {pB pBz : mA} {rz : Int32} (hm : mX10_add a1 a2 iv ar la pA pB = some (rz, ivz, arz, laz, pAz, pBz)) : Ct l D cI cJ yX10_add cX10_add 3 (some .int) 0 0 [.ref (oc 10), .int a1, .int a2] (wC cI cJ oc ac pa pb aa ab xp xs tp cp mp iv ar la pA pB) (wC cI cJ oc ac pa pb aa ab xp xs tp cp mp ivz arz laz pAz pBz) rz := by
  intro sz
  refine ct_of (by decide) (Nat.le_of_ble_eq_true rfl) ?_
  intro p e s m args below meth c C hw ls hl
  have hl : lv_has ls 3 [(0, .ref (oc 10)), (1, .int a1), (2, .int a2)] := hl
  have hx := C.1.1
  have hb := C.1.2.1
  unfold mX10_add at hm
  refine lv_aload_n hx hb dX10_add_0 rfl (lv_at hl 0 rfl) ?_
  refine g_get C hw gC10_5 dX10_add_1 ?_
  refine lv_sipush (v := 2000) hx hb dX10_add_4 cs_2000 ?_
  refine lv_icmp_lt (tgt := 12) hx hb dX10_add_7 (by decide) (fun hc => ?_) (fun hc => ?_)
  · have hm := it_t hc hm
    refine lv_aload_n hx hb dX10_add_12 rfl (lv_at hl 0 rfl) ?_
    refine g_get C hw gC10_0 dX10_add_13 ?_
    refine lv_aload_n hx hb dX10_add_16 rfl (lv_at hl 0 rfl) ?_
    refine g_get C hw gC10_5 dX10_add_17 ?_
    refine lv_iload_n hx hb dX10_add_20 rfl (lv_at hl 1 rfl) ?_
    obtain ⟨hi, hm⟩ := it_a hm
    refine g_ast C hw sC10_0 hi dX10_add_21 (fun H locs hw => ?_)
    refine lv_aload_n hx hb dX10_add_22 rfl (lv_at hl 0 rfl) ?_
    refine g_get C hw gC10_1 dX10_add_23 ?_
    refine lv_aload_n hx hb dX10_add_26 rfl (lv_at hl 0 rfl) ?_
    refine g_get C hw gC10_5 dX10_add_27 ?_
    refine lv_iload_n hx hb dX10_add_30 rfl (lv_at hl 2 rfl) ?_
    obtain ⟨hi, hm⟩ := it_a hm
    refine g_ast C hw sC10_1 hi dX10_add_31 (fun H locs hw => ?_)
    refine lv_aload_n hx hb dX10_add_32 rfl (lv_at hl 0 rfl) ?_
    refine g_get C hw gC10_3 dX10_add_33 ?_
    refine lv_aload_n hx hb dX10_add_36 rfl (lv_at hl 0 rfl) ?_
    refine g_get C hw gC10_5 dX10_add_37 ?_
    refine lv_iconst (v := (-1)) hx hb dX10_add_40 ci_m1 ?_
    obtain ⟨hi, hm⟩ := it_a hm
    refine g_ast C hw sC10_3 hi dX10_add_41 (fun H locs hw => ?_)
    refine lv_aload_n hx hb dX10_add_42 rfl (lv_at hl 0 rfl) ?_
    refine g_get C hw gC10_4 dX10_add_43 ?_
    refine lv_aload_n hx hb dX10_add_46 rfl (lv_at hl 0 rfl) ?_
    refine g_get C hw gC10_5 dX10_add_47 ?_
    refine lv_iconst (v := (-1)) hx hb dX10_add_50 ci_m1 ?_
    obtain ⟨hi, hm⟩ := it_a hm
    refine g_ast C hw sC10_4 hi dX10_add_51 (fun H locs hw => ?_)
    refine lv_aload_n hx hb dX10_add_52 rfl (lv_at hl 0 rfl) ?_
    refine lv_dup hx hb dX10_add_53 rfl ?_
    refine g_get C hw gC10_5 dX10_add_54 ?_
    refine lv_iconst (v := 1) hx hb dX10_add_57 ci_1 ?_
    refine lv_iadd hx hb dX10_add_58 ?_
    refine g_put C hw pC10_5 dX10_add_59 (fun H locs hw => ?_)
    refine lv_aload_n hx hb dX10_add_62 rfl (lv_at hl 0 rfl) ?_
    refine g_get C hw gC10_5 dX10_add_63 ?_
    refine lv_iconst (v := 1) hx hb dX10_add_66 ci_1 ?_
    refine lv_isub hx hb dX10_add_67 ?_
    cases hm
    exact g_iret C hw dX10_add_68
  · have hm := it_f hc hm
    refine lv_iconst (v := (-1)) hx hb dX10_add_10 ci_m1 ?_
    cases hm
    exact g_iret C hw dX10_add_11
def mX4_give (a1 : Int32) (iv : mI) (ar : mA) (la : mL) (pA : mA) (pB : mA) : Option (Int32 × mI × mA × mL × mA × mA) := some (0, va_up (va_up iv 409 (-1)) 412 a1, ar, la, pA, pB)
set_option maxRecDepth 100000 in
set_option maxHeartbeats 4000000 in
theorem kX4_give {a1 : Int32} {iv ivz : mI} {ar arz : mA} {la laz : mL} {pA pAz : mA} {pB pBz : mA} {rz : Int32} (hm : mX4_give a1 iv ar la pA pB = some (rz, ivz, arz, laz, pAz, pBz)) : CtV l D cI cJ yX4_give cX4_give 2 0 0 [.ref (oc 4), .int a1] (wC cI cJ oc ac pa pb aa ab xp xs tp cp pa iv ar la pA pB) (wC cI cJ oc ac pa pb aa ab xp xs tp cp pa ivz arz laz pAz pBz) := by
  intro sz
  refine ct_of (by decide) (Nat.le_of_ble_eq_true rfl) ?_
  intro p e s m args below meth c C hw ls hl
  have hl : lv_has ls 2 [(0, .ref (oc 4)), (1, .int a1)] := hl
  have hx := C.1.1
  have hb := C.1.2.1
  unfold mX4_give at hm
  refine lv_aload_n hx hb dX4_give_0 rfl (lv_at hl 0 rfl) ?_
  refine lv_iconst (v := (-1)) hx hb dX4_give_1 ci_m1 ?_
  refine g_put C hw pC4_9 dX4_give_2 (fun H locs hw => ?_)
  refine lv_aload_n hx hb dX4_give_5 rfl (lv_at hl 0 rfl) ?_
  refine lv_iload_n hx hb dX4_give_6 rfl (lv_at hl 1 rfl) ?_
  refine g_put C hw pC4_12 dX4_give_7 (fun H locs hw => ?_)
  cases hm
  exact g_vret C hw dX4_give_10
def mX6_labelOfA (a1 : Int32) (iv : mI) (ar : mA) (la : mL) (pA : mA) (pB : mA) : Option (Int32 × mI × mA × mL × mA × mA) := if a1 ≤ 0 then some ((-1), iv, ar, la, pA, pB) else if 200 < a1 then some ((-1), iv, ar, la, pA, pB) else if (a1 - 1) < 0 ∨ 200 ≤ (a1 - 1).toNatClampNeg then none else some ((pA 0 (a1 - 1).toNatClampNeg), iv, ar, la, pA, pB)
set_option maxRecDepth 100000 in
set_option maxHeartbeats 4000000 in
theorem kX6_labelOfA {a1 : Int32} {iv ivz : mI} {ar arz : mA} {la laz : mL} {pA pAz : mA} {pB pBz : mA} {rz : Int32} (hm : mX6_labelOfA a1 iv ar la pA pB = some (rz, ivz, arz, laz, pAz, pBz)) : Ct l D cI cJ yX6_labelOf cX6_labelOf 2 (some .int) 0 0 [.ref pa, .int a1] (wC cI cJ oc ac pa pb aa ab xp xs tp cp mp iv ar la pA pB) (wC cI cJ oc ac pa pb aa ab xp xs tp cp mp ivz arz laz pAz pBz) rz := by
  intro sz
  refine ct_of (by decide) (Nat.le_of_ble_eq_true rfl) ?_
  intro p e s m args below meth c C hw ls hl
  have hl : lv_has ls 2 [(0, .ref pa), (1, .int a1)] := hl
  have hx := C.1.1
  have hb := C.1.2.1
  unfold mX6_labelOfA at hm
  refine lv_iload_n hx hb dX6_labelOf_0 rfl (lv_at hl 1 rfl) ?_
  refine lv_if_le (tgt := 22) hx hb dX6_labelOf_1 (by decide) (fun hc => ?_) (fun hc => ?_)
  · have hm := it_t hc hm
    refine lv_iconst (v := (-1)) hx hb dX6_labelOf_22 ci_m1 ?_
    cases hm
    exact g_iret C hw dX6_labelOf_23
  · have hm := it_f hc hm
    refine lv_iload_n hx hb dX6_labelOf_4 rfl (lv_at hl 1 rfl) ?_
    refine lv_sipush (v := 200) hx hb dX6_labelOf_5 cs_200 ?_
    refine lv_icmp_gt (tgt := 22) hx hb dX6_labelOf_8 (by decide) (fun hc => ?_) (fun hc => ?_)
    · have hm := it_t hc hm
      refine lv_iconst (v := (-1)) hx hb dX6_labelOf_22 ci_m1 ?_
      cases hm
      exact g_iret C hw dX6_labelOf_23
    · have hm := it_f hc hm
      refine lv_aload_n hx hb dX6_labelOf_11 rfl (lv_at hl 0 rfl) ?_
      refine g_get C hw gC6A_0 dX6_labelOf_12 ?_
      refine lv_iload_n hx hb dX6_labelOf_15 rfl (lv_at hl 1 rfl) ?_
      refine lv_iconst (v := 1) hx hb dX6_labelOf_16 ci_1 ?_
      refine lv_isub hx hb dX6_labelOf_17 ?_
      obtain ⟨hi, hm⟩ := it_a hm
      refine g_ald C hw aC6A_0 hi dX6_labelOf_18 ?_
      refine lv_goto (tgt := 23) hx hb dX6_labelOf_19 (by decide) ?_
      cases hm
      exact g_iret C hw dX6_labelOf_23
def mX10_setPart (a1 : Int32) (a2 : Int32) (a3 : Int32) (iv : mI) (ar : mA) (la : mL) (pA : mA) (pB : mA) : Option (Int32 × mI × mA × mL × mA × mA) := obc (mX10_has a1 iv ar la pA pB) (fun r2 iv2 ar2 la2 pA2 pB2 => if r2 = 0 then some (0, iv2, ar2, la2, pA2, pB2) else if a2 < 0 then some (0, iv2, ar2, la2, pA2, pB2) else if 8 ≤ a2 then some (0, iv2, ar2, la2, pA2, pB2) else if ((a1 * 8) + a2) < 0 ∨ 16000 ≤ ((a1 * 8) + a2).toNatClampNeg then none else some (0, iv2, au ar2 1002 ((a1 * 8) + a2).toNatClampNeg a3, la2, pA2, pB2))
set_option maxRecDepth 100000 in
set_option maxHeartbeats 4000000 in
theorem kX10_setPart {a1 a2 a3 : Int32} {iv ivz : mI} {ar arz : mA} {la laz : mL} {pA pAz : mA} {pB pBz : mA} {rz : Int32} (hm : mX10_setPart a1 a2 a3 iv ar la pA pB = some (rz, ivz, arz, laz, pAz, pBz)) : CtV l D cI cJ yX10_setPart cX10_setPart 4 1 21 [.ref (oc 10), .int a1, .int a2, .int a3] (wC cI cJ oc ac pa pb aa ab xp xs tp cp mp iv ar la pA pB) (wC cI cJ oc ac pa pb aa ab xp xs tp cp mp ivz arz laz pAz pBz) := by
  intro sz
  refine ct_of (by decide) (Nat.le_of_ble_eq_true rfl) ?_
  intro p e s m args below meth c C hw ls hl
  have hl : lv_has ls 4 [(0, .ref (oc 10)), (1, .int a1), (2, .int a2), (3, .int a3)] := hl
  have hx := C.1.1
  have hb := C.1.2.1
  unfold mX10_setPart at hm
  refine lv_aload_n hx hb dX10_setPart_0 rfl (lv_at hl 0 rfl) ?_
  refine lv_iload_n hx hb dX10_setPart_1 rfl (lv_at hl 1 rfl) ?_
  obtain ⟨r2, iv2, ar2, la2, pA2, pB2, hc2, hm⟩ := obc_some hm
  refine g_calli (As := [.int a1]) (rest := []) C hw (kX10_has hc2) mtX10_has lkX10_31 oC10 hl.1 rfl rfl (Nat.le_of_ble_eq_true rfl) ⟨Nat.le_of_ble_eq_true rfl, Nat.le_of_ble_eq_true rfl⟩ dX10_setPart_2 ⟨Nat.zero_le _, Nat.zero_le _⟩ (fun H locs hw => ?_)
  refine lv_if_eq (tgt := 30) hx hb dX10_setPart_5 (by decide) (fun hc => ?_) (fun hc => ?_)
  · have hm := it_t hc hm
    cases hm
    exact g_vret C hw dX10_setPart_30
  · have hm := it_f hc hm
    refine lv_iload_n hx hb dX10_setPart_8 rfl (lv_at hl 2 rfl) ?_
    refine lv_if_lt (tgt := 30) hx hb dX10_setPart_9 (by decide) (fun hc => ?_) (fun hc => ?_)
    · have hm := it_t hc hm
      cases hm
      exact g_vret C hw dX10_setPart_30
    · have hm := it_f hc hm
      refine lv_iload_n hx hb dX10_setPart_12 rfl (lv_at hl 2 rfl) ?_
      refine lv_bipush (v := 8) hx hb dX10_setPart_13 cb_8 ?_
      refine lv_icmp_ge (tgt := 30) hx hb dX10_setPart_15 (by decide) (fun hc => ?_) (fun hc => ?_)
      · have hm := it_t hc hm
        cases hm
        exact g_vret C hw dX10_setPart_30
      · have hm := it_f hc hm
        refine lv_aload_n hx hb dX10_setPart_18 rfl (lv_at hl 0 rfl) ?_
        refine g_get C hw gC10_2 dX10_setPart_19 ?_
        refine lv_iload_n hx hb dX10_setPart_22 rfl (lv_at hl 1 rfl) ?_
        refine lv_bipush (v := 8) hx hb dX10_setPart_23 cb_8 ?_
        refine lv_imul hx hb dX10_setPart_25 ?_
        refine lv_iload_n hx hb dX10_setPart_26 rfl (lv_at hl 2 rfl) ?_
        refine lv_iadd hx hb dX10_setPart_27 ?_
        refine lv_iload_n hx hb dX10_setPart_28 rfl (lv_at hl 3 rfl) ?_
        obtain ⟨hi, hm⟩ := it_a hm
        refine g_ast C hw sC10_2 hi dX10_setPart_29 (fun H locs hw => ?_)
        cases hm
        exact g_vret C hw dX10_setPart_30
def mX4_gather_L60 : Nat → Int32 → Int32 → Int32 → Int32 → mI → mA → mL → mA → mA → Option (Int32 × mI × mA × mL × mA × mA)
  | 0, _, _, _, _, _, _, _, _, _ => none
  | n + 1, l1, l2, l4, l5, iv, ar, la, pA, pB => obc (mX6_kidCountA l1 iv ar la pA pB) (fun r67 iv67 ar67 la67 pA67 pB67 => if r67 ≤ l5 then some (l4, iv67, ar67, la67, pA67, pB67) else obc (mX6_kidA l1 l5 iv67 ar67 la67 pA67 pB67) (fun r90 iv90 ar90 la90 pA90 pB90 => obc (mX6_labelOfA r90 iv90 ar90 la90 pA90 pB90) (fun r93 iv93 ar93 la93 pA93 pB93 => obc (mX4_gottenBy l2 l5 iv93 ar93 la93 pA93 pB93) (fun r100 iv100 ar100 la100 pA100 pB100 => obc (mX10_setPart l4 r93 r100 iv100 ar100 la100 pA100 pB100) (fun r103 iv103 ar103 la103 pA103 pB103 => mX4_gather_L60 n l1 l2 l4 (l5 + 1) iv103 ar103 la103 pA103 pB103)))))
set_option maxRecDepth 100000 in
set_option maxHeartbeats 4000000 in
theorem wX4_gather_L60 (C : mCx p s m args meth c RX4 cX4_gather 6 (some .int) D cI cJ A) (n : Nat) : ∀ (l1 : Int32) (l2 : Int32) (l4 : Int32) (l5 : Int32) (iv : mI) (ar : mA) (la : mL) (pA : mA) (pB : mA) (rz : Int32) (ivz : mI) (arz : mA) (laz : mL) (pAz : mA) (pBz : mA), mX4_gather_L60 n l1 l2 l4 l5 iv ar la pA pB = some (rz, ivz, arz, laz, pAz, pBz) → ∀ (H : Heap) (locs : List Loc) (ls : Array Slot), lv_has ls 6 [(0, .ref (oc 4)), (1, .int l1), (2, .int l2), (4, .int l4), (5, .int l5)] → inW D A s (wC cI cJ oc ac pa pb aa ab xp xs tp cp pa iv ar la pA pB) H locs → W p l e (rmO 2 44) s m args below meth c H locs 0 0 (MQ below (ctQ D cI cJ (wC cI cJ oc ac pa pb aa ab xp xs tp cp pa ivz arz laz pAz pBz) A rz) args s 0 0 A) (F0 m 60 ls []) := by
  induction n with
  | zero =>
    intro l1 l2 l4 l5 iv ar la pA pB rz ivz arz laz pAz pBz hm H locs ls hl hw
    have hm : (none : Option (Int32 × mI × mA × mL × mA × mA)) = some _ := hm
    cases hm
  | succ n ih =>
    intro l1 l2 l4 l5 iv ar la pA pB rz ivz arz laz pAz pBz hm H locs ls hl hw
    have hx := C.1.1
    have hb := C.1.2.1
    unfold mX4_gather_L60 at hm
    refine lv_iload hx hb dX4_gather_60 (lv_at hl 4 rfl) ?_
    refine lv_aload_n hx hb dX4_gather_62 rfl (lv_at hl 0 rfl) ?_
    refine g_get C hw gC4_2 dX4_gather_63 ?_
    refine lv_iload_n hx hb dX4_gather_66 rfl (lv_at hl 1 rfl) ?_
    obtain ⟨r67, iv67, ar67, la67, pA67, pB67, hc67, hm⟩ := obc_some hm
    refine g_calli (As := [.int l1]) (rest := [.int l5]) C hw (kX6_kidCountA hc67) mtX6_kidCount lkX4_113 oC6A hl.1 rfl rfl (Nat.le_of_ble_eq_true rfl) ⟨Nat.le_of_ble_eq_true rfl, Nat.le_of_ble_eq_true rfl⟩ dX4_gather_67 ⟨Nat.zero_le _, Nat.zero_le _⟩ (fun H locs hw => ?_)
    refine lv_icmp_ge (tgt := 112) hx hb dX4_gather_70 (by decide) (fun hc => ?_) (fun hc => ?_)
    · have hm := it_t hc hm
      refine lv_iload hx hb dX4_gather_112 (lv_at hl 3 rfl) ?_
      cases hm
      exact g_iret C hw dX4_gather_114
    · have hm := it_f hc hm
      refine lv_aload_n hx hb dX4_gather_73 rfl (lv_at hl 0 rfl) ?_
      refine g_get C hw gC4_0 dX4_gather_74 ?_
      refine lv_iload hx hb dX4_gather_77 (lv_at hl 3 rfl) ?_
      refine lv_aload_n hx hb dX4_gather_79 rfl (lv_at hl 0 rfl) ?_
      refine g_get C hw gC4_2 dX4_gather_80 ?_
      refine lv_aload_n hx hb dX4_gather_83 rfl (lv_at hl 0 rfl) ?_
      refine g_get C hw gC4_2 dX4_gather_84 ?_
      refine lv_iload_n hx hb dX4_gather_87 rfl (lv_at hl 1 rfl) ?_
      refine lv_iload hx hb dX4_gather_88 (lv_at hl 4 rfl) ?_
      obtain ⟨r90, iv90, ar90, la90, pA90, pB90, hc90, hm⟩ := obc_some hm
      refine g_calli (As := [.int l1, .int l5]) (rest := [.ref pa, .int l4, .ref (oc 10)]) C hw (kX6_kidA hc90) mtX6_kid lkX4_109 oC6A hl.1 rfl rfl (Nat.le_of_ble_eq_true rfl) ⟨Nat.le_of_ble_eq_true rfl, Nat.le_of_ble_eq_true rfl⟩ dX4_gather_90 ⟨Nat.zero_le _, Nat.zero_le _⟩ (fun H locs hw => ?_)
      obtain ⟨r93, iv93, ar93, la93, pA93, pB93, hc93, hm⟩ := obc_some hm
      refine g_calli (As := [.int r90]) (rest := [.int l4, .ref (oc 10)]) C hw (kX6_labelOfA hc93) mtX6_labelOf lkX4_155 oC6A hl.1 rfl rfl (Nat.le_of_ble_eq_true rfl) ⟨Nat.le_of_ble_eq_true rfl, Nat.le_of_ble_eq_true rfl⟩ dX4_gather_93 ⟨Nat.zero_le _, Nat.zero_le _⟩ (fun H locs hw => ?_)
      refine lv_aload_n hx hb dX4_gather_96 rfl (lv_at hl 0 rfl) ?_
      refine lv_iload_n hx hb dX4_gather_97 rfl (lv_at hl 2 rfl) ?_
      refine lv_iload hx hb dX4_gather_98 (lv_at hl 4 rfl) ?_
      obtain ⟨r100, iv100, ar100, la100, pA100, pB100, hc100, hm⟩ := obc_some hm
      refine g_calli (As := [.int l2, .int l5]) (rest := [.int r93, .int l4, .ref (oc 10)]) C hw (kX4_gottenBy hc100) mtX4_gottenBy lkX4_125 oC4 hl.1 rfl rfl (Nat.le_of_ble_eq_true rfl) ⟨Nat.le_of_ble_eq_true rfl, Nat.le_of_ble_eq_true rfl⟩ dX4_gather_100 ⟨Nat.zero_le _, Nat.zero_le _⟩ (fun H locs hw => ?_)
      obtain ⟨r103, iv103, ar103, la103, pA103, pB103, hc103, hm⟩ := obc_some hm
      refine g_callv (As := [.int l4, .int r93, .int r100]) (rest := []) C hw (kX10_setPart hc103) mtX10_setPart lkX4_158 oC10 hl.1 rfl rfl (Nat.le_of_ble_eq_true rfl) ⟨Nat.le_of_ble_eq_true rfl, Nat.le_of_ble_eq_true rfl⟩ dX4_gather_103 ⟨Nat.zero_le _, Nat.zero_le _⟩ (fun H locs hw => ?_)
      refine lv_iinc (v := (l5 + 1)) (lv' := [(5, .int (l5 + 1)), (0, .ref (oc 4)), (1, .int l1), (2, .int l2), (4, .int l4)]) hx hb dX4_gather_106 hl (k := 4) rfl (ii_ ci_1) (by decide) rfl (fun ls hl => ?_)
      refine lv_goto (tgt := 60) hx hb dX4_gather_109 (by decide) ?_
      exact ih _ _ _ _ _ _ _ _ _ _ _ _ _ _ _ hm _ _ _ (lv_sub hl [1, 2, 3, 4, 0] rfl) hw
def mX4_gather_L5 : Nat → Int32 → Int32 → Int32 → Int32 → mI → mA → mL → mA → mA → Option (Int32 × mI × mA × mL × mA × mA)
  | 0, _, _, _, _, _, _, _, _, _ => none
  | n + 1, l1, l2, l3, l4, iv, ar, la, pA, pB => obc (mX6_kidCountA l1 iv ar la pA pB) (fun r12 iv12 ar12 la12 pA12 pB12 => if r12 ≤ l4 then obc (mX10_add 5 l3 iv12 ar12 la12 pA12 pB12) (fun r52 iv52 ar52 la52 pA52 pB52 => mX4_gather_L60 bigF l1 l2 r52 0 iv52 ar52 la52 pA52 pB52) else obc (mX6_kidA l1 l4 iv12 ar12 la12 pA12 pB12) (fun r31 iv31 ar31 la31 pA31 pB31 => obc (mX6_labelOfA r31 iv31 ar31 la31 pA31 pB31) (fun r34 iv34 ar34 la34 pA34 pB34 => mX4_gather_L5 n l1 l2 (l3 ||| (1 <<< (r34 &&& 31))) (l4 + 1) iv34 ar34 la34 pA34 pB34)))
set_option maxRecDepth 100000 in
set_option maxHeartbeats 4000000 in
theorem wX4_gather_L5 (C : mCx p s m args meth c RX4 cX4_gather 6 (some .int) D cI cJ A) (n : Nat) : ∀ (l1 : Int32) (l2 : Int32) (l3 : Int32) (l4 : Int32) (iv : mI) (ar : mA) (la : mL) (pA : mA) (pB : mA) (rz : Int32) (ivz : mI) (arz : mA) (laz : mL) (pAz : mA) (pBz : mA), mX4_gather_L5 n l1 l2 l3 l4 iv ar la pA pB = some (rz, ivz, arz, laz, pAz, pBz) → ∀ (H : Heap) (locs : List Loc) (ls : Array Slot), lv_has ls 6 [(0, .ref (oc 4)), (1, .int l1), (2, .int l2), (3, .int l3), (4, .int l4)] → inW D A s (wC cI cJ oc ac pa pb aa ab xp xs tp cp pa iv ar la pA pB) H locs → W p l e (rmO 2 44) s m args below meth c H locs 0 0 (MQ below (ctQ D cI cJ (wC cI cJ oc ac pa pb aa ab xp xs tp cp pa ivz arz laz pAz pBz) A rz) args s 0 0 A) (F0 m 5 ls []) := by
  induction n with
  | zero =>
    intro l1 l2 l3 l4 iv ar la pA pB rz ivz arz laz pAz pBz hm H locs ls hl hw
    have hm : (none : Option (Int32 × mI × mA × mL × mA × mA)) = some _ := hm
    cases hm
  | succ n ih =>
    intro l1 l2 l3 l4 iv ar la pA pB rz ivz arz laz pAz pBz hm H locs ls hl hw
    have hx := C.1.1
    have hb := C.1.2.1
    unfold mX4_gather_L5 at hm
    refine lv_iload hx hb dX4_gather_5 (lv_at hl 4 rfl) ?_
    refine lv_aload_n hx hb dX4_gather_7 rfl (lv_at hl 0 rfl) ?_
    refine g_get C hw gC4_2 dX4_gather_8 ?_
    refine lv_iload_n hx hb dX4_gather_11 rfl (lv_at hl 1 rfl) ?_
    obtain ⟨r12, iv12, ar12, la12, pA12, pB12, hc12, hm⟩ := obc_some hm
    refine g_calli (As := [.int l1]) (rest := [.int l4]) C hw (kX6_kidCountA hc12) mtX6_kidCount lkX4_113 oC6A hl.1 rfl rfl (Nat.le_of_ble_eq_true rfl) ⟨Nat.le_of_ble_eq_true rfl, Nat.le_of_ble_eq_true rfl⟩ dX4_gather_12 ⟨Nat.zero_le _, Nat.zero_le _⟩ (fun H locs hw => ?_)
    refine lv_icmp_ge (tgt := 46) hx hb dX4_gather_15 (by decide) (fun hc => ?_) (fun hc => ?_)
    · have hm := it_t hc hm
      refine lv_aload_n hx hb dX4_gather_46 rfl (lv_at hl 0 rfl) ?_
      refine g_get C hw gC4_0 dX4_gather_47 ?_
      refine lv_iconst (v := 5) hx hb dX4_gather_50 ci_5 ?_
      refine lv_iload_n hx hb dX4_gather_51 rfl (lv_at hl 3 rfl) ?_
      obtain ⟨r52, iv52, ar52, la52, pA52, pB52, hc52, hm⟩ := obc_some hm
      refine g_calli (As := [.int 5, .int l3]) (rest := []) C hw (kX10_add hc52) mtX10_add lkX4_96 oC10 hl.1 rfl rfl (Nat.le_of_ble_eq_true rfl) ⟨Nat.le_of_ble_eq_true rfl, Nat.le_of_ble_eq_true rfl⟩ dX4_gather_52 ⟨Nat.zero_le _, Nat.zero_le _⟩ (fun H locs hw => ?_)
      refine lv_istore (lv' := [(4, .int r52), (0, .ref (oc 4)), (1, .int l1), (2, .int l2), (3, .int l3)]) hx hb dX4_gather_55 hl (by decide) rfl (fun ls hl => ?_)
      refine lv_iconst (v := 0) hx hb dX4_gather_57 ci_0 ?_
      refine lv_istore (lv' := [(5, .int 0), (4, .int r52), (0, .ref (oc 4)), (1, .int l1), (2, .int l2), (3, .int l3)]) hx hb dX4_gather_58 hl (by decide) rfl (fun ls hl => ?_)
      exact wX4_gather_L60 C bigF _ _ _ _ _ _ _ _ _ _ _ _ _ _ _ hm _ _ _ (lv_sub hl [2, 3, 4, 1, 0] rfl) hw
    · have hm := it_f hc hm
      refine lv_iload_n hx hb dX4_gather_18 rfl (lv_at hl 3 rfl) ?_
      refine lv_iconst (v := 1) hx hb dX4_gather_19 ci_1 ?_
      refine lv_aload_n hx hb dX4_gather_20 rfl (lv_at hl 0 rfl) ?_
      refine g_get C hw gC4_2 dX4_gather_21 ?_
      refine lv_aload_n hx hb dX4_gather_24 rfl (lv_at hl 0 rfl) ?_
      refine g_get C hw gC4_2 dX4_gather_25 ?_
      refine lv_iload_n hx hb dX4_gather_28 rfl (lv_at hl 1 rfl) ?_
      refine lv_iload hx hb dX4_gather_29 (lv_at hl 4 rfl) ?_
      obtain ⟨r31, iv31, ar31, la31, pA31, pB31, hc31, hm⟩ := obc_some hm
      refine g_calli (As := [.int l1, .int l4]) (rest := [.ref pa, .int 1, .int l3]) C hw (kX6_kidA hc31) mtX6_kid lkX4_109 oC6A hl.1 rfl rfl (Nat.le_of_ble_eq_true rfl) ⟨Nat.le_of_ble_eq_true rfl, Nat.le_of_ble_eq_true rfl⟩ dX4_gather_31 ⟨Nat.zero_le _, Nat.zero_le _⟩ (fun H locs hw => ?_)
      obtain ⟨r34, iv34, ar34, la34, pA34, pB34, hc34, hm⟩ := obc_some hm
      refine g_calli (As := [.int r31]) (rest := [.int 1, .int l3]) C hw (kX6_labelOfA hc34) mtX6_labelOf lkX4_155 oC6A hl.1 rfl rfl (Nat.le_of_ble_eq_true rfl) ⟨Nat.le_of_ble_eq_true rfl, Nat.le_of_ble_eq_true rfl⟩ dX4_gather_34 ⟨Nat.zero_le _, Nat.zero_le _⟩ (fun H locs hw => ?_)
      refine lv_ishl hx hb dX4_gather_37 ?_
      refine lv_ior hx hb dX4_gather_38 ?_
      refine lv_istore_n (lv' := [(3, .int (l3 ||| (1 <<< (r34 &&& 31)))), (0, .ref (oc 4)), (1, .int l1), (2, .int l2), (4, .int l4)]) hx hb dX4_gather_39 rfl hl (by decide) rfl (fun ls hl => ?_)
      refine lv_iinc (v := (l4 + 1)) (lv' := [(4, .int (l4 + 1)), (3, .int (l3 ||| (1 <<< (r34 &&& 31)))), (0, .ref (oc 4)), (1, .int l1), (2, .int l2)]) hx hb dX4_gather_40 hl (k := 4) rfl (ii_ ci_1) (by decide) rfl (fun ls hl => ?_)
      refine lv_goto (tgt := 5) hx hb dX4_gather_43 (by decide) ?_
      exact ih _ _ _ _ _ _ _ _ _ _ _ _ _ _ _ hm _ _ _ (lv_sub hl [2, 3, 4, 1, 0] rfl) hw
def mX4_gather (a1 : Int32) (a2 : Int32) (iv : mI) (ar : mA) (la : mL) (pA : mA) (pB : mA) : Option (Int32 × mI × mA × mL × mA × mA) := mX4_gather_L5 bigF a1 a2 0 0 iv ar la pA pB
set_option maxRecDepth 100000 in
set_option maxHeartbeats 4000000 in
theorem kX4_gather {a1 a2 : Int32} {iv ivz : mI} {ar arz : mA} {la laz : mL} {pA pAz : mA} {pB pBz : mA} {rz : Int32} (hm : mX4_gather a1 a2 iv ar la pA pB = some (rz, ivz, arz, laz, pAz, pBz)) : Ct l D cI cJ yX4_gather cX4_gather 6 (some .int) 2 44 [.ref (oc 4), .int a1, .int a2] (wC cI cJ oc ac pa pb aa ab xp xs tp cp pa iv ar la pA pB) (wC cI cJ oc ac pa pb aa ab xp xs tp cp pa ivz arz laz pAz pBz) rz := by
  intro sz
  refine ct_of (by decide) (Nat.le_of_ble_eq_true rfl) ?_
  intro p e s m args below meth c C hw ls hl
  have hl : lv_has ls 6 [(0, .ref (oc 4)), (1, .int a1), (2, .int a2)] := hl
  have hx := C.1.1
  have hb := C.1.2.1
  unfold mX4_gather at hm
  refine lv_iconst (v := 0) hx hb dX4_gather_0 ci_0 ?_
  refine lv_istore_n (lv' := [(3, .int 0), (0, .ref (oc 4)), (1, .int a1), (2, .int a2)]) hx hb dX4_gather_1 rfl hl (by decide) rfl (fun ls hl => ?_)
  refine lv_iconst (v := 0) hx hb dX4_gather_2 ci_0 ?_
  refine lv_istore (lv' := [(4, .int 0), (3, .int 0), (0, .ref (oc 4)), (1, .int a1), (2, .int a2)]) hx hb dX4_gather_3 hl (by decide) rfl (fun ls hl => ?_)
  exact wX4_gather_L5 C bigF _ _ _ _ _ _ _ _ _ _ _ _ _ _ _ hm _ _ _ (lv_sub hl [2, 3, 4, 1, 0] rfl) hw
def mX10_partOf_J87 (l1 : Int32) (l2 : Int32) (iv : mI) (ar : mA) (la : mL) (pA : mA) (pB : mA) : Option (Int32 × mI × mA × mL × mA × mA) := if ((l1 * 8) + l2) < 0 ∨ 16000 ≤ ((l1 * 8) + l2).toNatClampNeg then none else some ((ar 1002 ((l1 * 8) + l2).toNatClampNeg), iv, ar, la, pA, pB)
set_option maxRecDepth 100000 in
set_option maxHeartbeats 4000000 in
theorem wX10_partOf_J87 (C : mCx p s m args meth c RX10 cX10_partOf 5 (some .int) D cI cJ A) : ∀ (l1 : Int32) (l2 : Int32) (iv : mI) (ar : mA) (la : mL) (pA : mA) (pB : mA) (rz : Int32) (ivz : mI) (arz : mA) (laz : mL) (pAz : mA) (pBz : mA), mX10_partOf_J87 l1 l2 iv ar la pA pB = some (rz, ivz, arz, laz, pAz, pBz) → ∀ (H : Heap) (locs : List Loc) (ls : Array Slot), lv_has ls 5 [(0, .ref (oc 10)), (1, .int l1), (2, .int l2)] → inW D A s (wC cI cJ oc ac pa pb aa ab xp xs tp cp mp iv ar la pA pB) H locs → W p l e (rmO 1 21) s m args below meth c H locs 0 0 (MQ below (ctQ D cI cJ (wC cI cJ oc ac pa pb aa ab xp xs tp cp mp ivz arz laz pAz pBz) A rz) args s 0 0 A) (F0 m 87 ls []) := by
  intro l1 l2 iv ar la pA pB rz ivz arz laz pAz pBz hm H locs ls hl hw
  have hx := C.1.1
  have hb := C.1.2.1
  unfold mX10_partOf_J87 at hm
  refine lv_aload_n hx hb dX10_partOf_87 rfl (lv_at hl 0 rfl) ?_
  refine g_get C hw gC10_2 dX10_partOf_88 ?_
  refine lv_iload_n hx hb dX10_partOf_91 rfl (lv_at hl 1 rfl) ?_
  refine lv_bipush (v := 8) hx hb dX10_partOf_92 cb_8 ?_
  refine lv_imul hx hb dX10_partOf_94 ?_
  refine lv_iload_n hx hb dX10_partOf_95 rfl (lv_at hl 2 rfl) ?_
  refine lv_iadd hx hb dX10_partOf_96 ?_
  obtain ⟨hi, hm⟩ := it_a hm
  refine g_ald C hw aC10_2 hi dX10_partOf_97 ?_
  refine lv_goto (tgt := 102) hx hb dX10_partOf_98 (by decide) ?_
  cases hm
  exact g_iret C hw dX10_partOf_102
def mX10_partOf_J76 (l1 : Int32) (l2 : Int32) (l3 : Int32) (s0 : Int32) (iv : mI) (ar : mA) (la : mL) (pA : mA) (pB : mA) : Option (Int32 × mI × mA × mL × mA × mA) := if l3 = 0 then if s0 = 0 then some ((-1), iv, ar, la, pA, pB) else mX10_partOf_J87 l1 l2 iv ar la pA pB else mX10_partOf_J87 l1 l2 iv ar la pA pB
set_option maxRecDepth 100000 in
set_option maxHeartbeats 4000000 in
theorem wX10_partOf_J76 (C : mCx p s m args meth c RX10 cX10_partOf 5 (some .int) D cI cJ A) : ∀ (l1 : Int32) (l2 : Int32) (l3 : Int32) (s0 : Int32) (iv : mI) (ar : mA) (la : mL) (pA : mA) (pB : mA) (rz : Int32) (ivz : mI) (arz : mA) (laz : mL) (pAz : mA) (pBz : mA), mX10_partOf_J76 l1 l2 l3 s0 iv ar la pA pB = some (rz, ivz, arz, laz, pAz, pBz) → ∀ (H : Heap) (locs : List Loc) (ls : Array Slot), lv_has ls 5 [(0, .ref (oc 10)), (1, .int l1), (2, .int l2), (3, .int l3)] → inW D A s (wC cI cJ oc ac pa pb aa ab xp xs tp cp mp iv ar la pA pB) H locs → W p l e (rmO 1 21) s m args below meth c H locs 0 0 (MQ below (ctQ D cI cJ (wC cI cJ oc ac pa pb aa ab xp xs tp cp mp ivz arz laz pAz pBz) A rz) args s 0 0 A) (F0 m 76 ls [.int s0]) := by
  intro l1 l2 l3 s0 iv ar la pA pB rz ivz arz laz pAz pBz hm H locs ls hl hw
  have hx := C.1.1
  have hb := C.1.2.1
  unfold mX10_partOf_J76 at hm
  refine lv_istore (lv' := [(4, .int s0), (0, .ref (oc 10)), (1, .int l1), (2, .int l2), (3, .int l3)]) hx hb dX10_partOf_76 hl (by decide) rfl (fun ls hl => ?_)
  refine lv_iload_n hx hb dX10_partOf_78 rfl (lv_at hl 4 rfl) ?_
  refine lv_if_ne (tgt := 87) hx hb dX10_partOf_79 (by decide) (fun hc => ?_) (fun hc => ?_)
  · have hm := it_f hc hm
    exact wX10_partOf_J87 C _ _ _ _ _ _ _ _ _ _ _ _ _ hm _ _ _ (lv_sub hl [1, 2, 3] rfl) hw
  · have hm := it_t hc hm
    refine lv_iload hx hb dX10_partOf_82 (lv_at hl 0 rfl) ?_
    refine lv_if_eq (tgt := 101) hx hb dX10_partOf_84 (by decide) (fun hc => ?_) (fun hc => ?_)
    · have hm := it_t hc hm
      refine lv_iconst (v := (-1)) hx hb dX10_partOf_101 ci_m1 ?_
      cases hm
      exact g_iret C hw dX10_partOf_102
    · have hm := it_f hc hm
      exact wX10_partOf_J87 C _ _ _ _ _ _ _ _ _ _ _ _ _ hm _ _ _ (lv_sub hl [1, 2, 3] rfl) hw
def mX10_partOf_J49 (l1 : Int32) (l2 : Int32) (s0 : Int32) (iv : mI) (ar : mA) (la : mL) (pA : mA) (pB : mA) : Option (Int32 × mI × mA × mL × mA × mA) := if l1 < 0 ∨ 2000 ≤ l1.toNatClampNeg then none else if (ar 1000 l1.toNatClampNeg) = 6 then if l1 < 0 ∨ 2000 ≤ l1.toNatClampNeg then none else if (ar 1001 l1.toNatClampNeg) = l2 then mX10_partOf_J76 l1 l2 s0 1 iv ar la pA pB else mX10_partOf_J76 l1 l2 s0 0 iv ar la pA pB else mX10_partOf_J76 l1 l2 s0 0 iv ar la pA pB
set_option maxRecDepth 100000 in
set_option maxHeartbeats 4000000 in
theorem wX10_partOf_J49 (C : mCx p s m args meth c RX10 cX10_partOf 5 (some .int) D cI cJ A) : ∀ (l1 : Int32) (l2 : Int32) (s0 : Int32) (iv : mI) (ar : mA) (la : mL) (pA : mA) (pB : mA) (rz : Int32) (ivz : mI) (arz : mA) (laz : mL) (pAz : mA) (pBz : mA), mX10_partOf_J49 l1 l2 s0 iv ar la pA pB = some (rz, ivz, arz, laz, pAz, pBz) → ∀ (H : Heap) (locs : List Loc) (ls : Array Slot), lv_has ls 5 [(0, .ref (oc 10)), (1, .int l1), (2, .int l2)] → inW D A s (wC cI cJ oc ac pa pb aa ab xp xs tp cp mp iv ar la pA pB) H locs → W p l e (rmO 1 21) s m args below meth c H locs 0 0 (MQ below (ctQ D cI cJ (wC cI cJ oc ac pa pb aa ab xp xs tp cp mp ivz arz laz pAz pBz) A rz) args s 0 0 A) (F0 m 49 ls [.int s0]) := by
  intro l1 l2 s0 iv ar la pA pB rz ivz arz laz pAz pBz hm H locs ls hl hw
  have hx := C.1.1
  have hb := C.1.2.1
  unfold mX10_partOf_J49 at hm
  refine lv_istore_n (lv' := [(3, .int s0), (0, .ref (oc 10)), (1, .int l1), (2, .int l2)]) hx hb dX10_partOf_49 rfl hl (by decide) rfl (fun ls hl => ?_)
  refine lv_aload_n hx hb dX10_partOf_50 rfl (lv_at hl 1 rfl) ?_
  refine g_get C hw gC10_0 dX10_partOf_51 ?_
  refine lv_iload_n hx hb dX10_partOf_54 rfl (lv_at hl 2 rfl) ?_
  obtain ⟨hi, hm⟩ := it_a hm
  refine g_ald C hw aC10_0 hi dX10_partOf_55 ?_
  refine lv_bipush (v := 6) hx hb dX10_partOf_56 cb_6 ?_
  refine lv_icmp_ne (tgt := 75) hx hb dX10_partOf_58 (by decide) (fun hc => ?_) (fun hc => ?_)
  · have hm := it_f hc hm
    refine lv_iconst (v := 0) hx hb dX10_partOf_75 ci_0 ?_
    exact wX10_partOf_J76 C _ _ _ _ _ _ _ _ _ _ _ _ _ _ _ hm _ _ _ (lv_sub hl [1, 2, 3, 0] rfl) hw
  · have hm := it_t hc hm
    refine lv_aload_n hx hb dX10_partOf_61 rfl (lv_at hl 1 rfl) ?_
    refine g_get C hw gC10_1 dX10_partOf_62 ?_
    refine lv_iload_n hx hb dX10_partOf_65 rfl (lv_at hl 2 rfl) ?_
    obtain ⟨hi, hm⟩ := it_a hm
    refine g_ald C hw aC10_1 hi dX10_partOf_66 ?_
    refine lv_iload_n hx hb dX10_partOf_67 rfl (lv_at hl 3 rfl) ?_
    refine lv_icmp_ne (tgt := 75) hx hb dX10_partOf_68 (by decide) (fun hc => ?_) (fun hc => ?_)
    · have hm := it_f hc hm
      refine lv_iconst (v := 0) hx hb dX10_partOf_75 ci_0 ?_
      exact wX10_partOf_J76 C _ _ _ _ _ _ _ _ _ _ _ _ _ _ _ hm _ _ _ (lv_sub hl [1, 2, 3, 0] rfl) hw
    · have hm := it_t hc hm
      refine lv_iconst (v := 1) hx hb dX10_partOf_71 ci_1 ?_
      refine lv_goto (tgt := 76) hx hb dX10_partOf_72 (by decide) ?_
      exact wX10_partOf_J76 C _ _ _ _ _ _ _ _ _ _ _ _ _ _ _ hm _ _ _ (lv_sub hl [1, 2, 3, 0] rfl) hw
def mX10_partOf (a1 : Int32) (a2 : Int32) (iv : mI) (ar : mA) (la : mL) (pA : mA) (pB : mA) : Option (Int32 × mI × mA × mL × mA × mA) := obc (mX10_has a1 iv ar la pA pB) (fun r2 iv2 ar2 la2 pA2 pB2 => if r2 = 0 then some ((-1), iv2, ar2, la2, pA2, pB2) else if a2 < 0 then some ((-1), iv2, ar2, la2, pA2, pB2) else if a2 < 8 then if a1 < 0 ∨ 2000 ≤ a1.toNatClampNeg then none else if (ar2 1000 a1.toNatClampNeg) = 5 then if a1 < 0 ∨ 2000 ≤ a1.toNatClampNeg then none else if (((ar2 1001 a1.toNatClampNeg) >>> (a2 &&& 31)) &&& 1) = 1 then mX10_partOf_J49 a1 a2 1 iv2 ar2 la2 pA2 pB2 else mX10_partOf_J49 a1 a2 0 iv2 ar2 la2 pA2 pB2 else mX10_partOf_J49 a1 a2 0 iv2 ar2 la2 pA2 pB2 else some ((-1), iv2, ar2, la2, pA2, pB2))
set_option maxRecDepth 100000 in
set_option maxHeartbeats 4000000 in
theorem kX10_partOf {a1 a2 : Int32} {iv ivz : mI} {ar arz : mA} {la laz : mL} {pA pAz : mA} {pB pBz : mA} {rz : Int32} (hm : mX10_partOf a1 a2 iv ar la pA pB = some (rz, ivz, arz, laz, pAz, pBz)) : Ct l D cI cJ yX10_partOf cX10_partOf 5 (some .int) 1 21 [.ref (oc 10), .int a1, .int a2] (wC cI cJ oc ac pa pb aa ab xp xs tp cp mp iv ar la pA pB) (wC cI cJ oc ac pa pb aa ab xp xs tp cp mp ivz arz laz pAz pBz) rz := by
  intro sz
  refine ct_of (by decide) (Nat.le_of_ble_eq_true rfl) ?_
  intro p e s m args below meth c C hw ls hl
  have hl : lv_has ls 5 [(0, .ref (oc 10)), (1, .int a1), (2, .int a2)] := hl
  have hx := C.1.1
  have hb := C.1.2.1
  unfold mX10_partOf at hm
  refine lv_aload_n hx hb dX10_partOf_0 rfl (lv_at hl 0 rfl) ?_
  refine lv_iload_n hx hb dX10_partOf_1 rfl (lv_at hl 1 rfl) ?_
  obtain ⟨r2, iv2, ar2, la2, pA2, pB2, hc2, hm⟩ := obc_some hm
  refine g_calli (As := [.int a1]) (rest := []) C hw (kX10_has hc2) mtX10_has lkX10_31 oC10 hl.1 rfl rfl (Nat.le_of_ble_eq_true rfl) ⟨Nat.le_of_ble_eq_true rfl, Nat.le_of_ble_eq_true rfl⟩ dX10_partOf_2 ⟨Nat.zero_le _, Nat.zero_le _⟩ (fun H locs hw => ?_)
  refine lv_if_eq (tgt := 18) hx hb dX10_partOf_5 (by decide) (fun hc => ?_) (fun hc => ?_)
  · have hm := it_t hc hm
    refine lv_iconst (v := (-1)) hx hb dX10_partOf_18 ci_m1 ?_
    cases hm
    exact g_iret C hw dX10_partOf_19
  · have hm := it_f hc hm
    refine lv_iload_n hx hb dX10_partOf_8 rfl (lv_at hl 2 rfl) ?_
    refine lv_if_lt (tgt := 18) hx hb dX10_partOf_9 (by decide) (fun hc => ?_) (fun hc => ?_)
    · have hm := it_t hc hm
      refine lv_iconst (v := (-1)) hx hb dX10_partOf_18 ci_m1 ?_
      cases hm
      exact g_iret C hw dX10_partOf_19
    · have hm := it_f hc hm
      refine lv_iload_n hx hb dX10_partOf_12 rfl (lv_at hl 2 rfl) ?_
      refine lv_bipush (v := 8) hx hb dX10_partOf_13 cb_8 ?_
      refine lv_icmp_lt (tgt := 20) hx hb dX10_partOf_15 (by decide) (fun hc => ?_) (fun hc => ?_)
      · have hm := it_t hc hm
        refine lv_aload_n hx hb dX10_partOf_20 rfl (lv_at hl 0 rfl) ?_
        refine g_get C hw gC10_0 dX10_partOf_21 ?_
        refine lv_iload_n hx hb dX10_partOf_24 rfl (lv_at hl 1 rfl) ?_
        obtain ⟨hi, hm⟩ := it_a hm
        refine g_ald C hw aC10_0 hi dX10_partOf_25 ?_
        refine lv_iconst (v := 5) hx hb dX10_partOf_26 ci_5 ?_
        refine lv_icmp_ne (tgt := 48) hx hb dX10_partOf_27 (by decide) (fun hc => ?_) (fun hc => ?_)
        · have hm := it_f hc hm
          refine lv_iconst (v := 0) hx hb dX10_partOf_48 ci_0 ?_
          exact wX10_partOf_J49 C _ _ _ _ _ _ _ _ _ _ _ _ _ _ hm _ _ _ (lv_sub hl [0, 1, 2] rfl) hw
        · have hm := it_t hc hm
          refine lv_aload_n hx hb dX10_partOf_30 rfl (lv_at hl 0 rfl) ?_
          refine g_get C hw gC10_1 dX10_partOf_31 ?_
          refine lv_iload_n hx hb dX10_partOf_34 rfl (lv_at hl 1 rfl) ?_
          obtain ⟨hi, hm⟩ := it_a hm
          refine g_ald C hw aC10_1 hi dX10_partOf_35 ?_
          refine lv_iload_n hx hb dX10_partOf_36 rfl (lv_at hl 2 rfl) ?_
          refine lv_ishr hx hb dX10_partOf_37 ?_
          refine lv_iconst (v := 1) hx hb dX10_partOf_38 ci_1 ?_
          refine lv_iand hx hb dX10_partOf_39 ?_
          refine lv_iconst (v := 1) hx hb dX10_partOf_40 ci_1 ?_
          refine lv_icmp_ne (tgt := 48) hx hb dX10_partOf_41 (by decide) (fun hc => ?_) (fun hc => ?_)
          · have hm := it_f hc hm
            refine lv_iconst (v := 0) hx hb dX10_partOf_48 ci_0 ?_
            exact wX10_partOf_J49 C _ _ _ _ _ _ _ _ _ _ _ _ _ _ hm _ _ _ (lv_sub hl [0, 1, 2] rfl) hw
          · have hm := it_t hc hm
            refine lv_iconst (v := 1) hx hb dX10_partOf_44 ci_1 ?_
            refine lv_goto (tgt := 49) hx hb dX10_partOf_45 (by decide) ?_
            exact wX10_partOf_J49 C _ _ _ _ _ _ _ _ _ _ _ _ _ _ hm _ _ _ (lv_sub hl [0, 1, 2] rfl) hw
      · have hm := it_f hc hm
        refine lv_iconst (v := (-1)) hx hb dX10_partOf_18 ci_m1 ?_
        cases hm
        exact g_iret C hw dX10_partOf_19
def mX4_tag (a1 : Int32) (a2 : Int32) (iv : mI) (ar : mA) (la : mL) (pA : mA) (pB : mA) : Option (Int32 × mI × mA × mL × mA × mA) := obc (mX10_add 6 a1 iv ar la pA pB) (fun r7 iv7 ar7 la7 pA7 pB7 => obc (mX10_setPart r7 a1 a2 iv7 ar7 la7 pA7 pB7) (fun r18 iv18 ar18 la18 pA18 pB18 => some (r7, iv18, ar18, la18, pA18, pB18)))
set_option maxRecDepth 100000 in
set_option maxHeartbeats 4000000 in
theorem kX4_tag {a1 a2 : Int32} {iv ivz : mI} {ar arz : mA} {la laz : mL} {pA pAz : mA} {pB pBz : mA} {rz : Int32} (hm : mX4_tag a1 a2 iv ar la pA pB = some (rz, ivz, arz, laz, pAz, pBz)) : Ct l D cI cJ yX4_tag cX4_tag 4 (some .int) 2 44 [.ref (oc 4), .int a1, .int a2] (wC cI cJ oc ac pa pb aa ab xp xs tp cp pa iv ar la pA pB) (wC cI cJ oc ac pa pb aa ab xp xs tp cp pa ivz arz laz pAz pBz) rz := by
  intro sz
  refine ct_of (by decide) (Nat.le_of_ble_eq_true rfl) ?_
  intro p e s m args below meth c C hw ls hl
  have hl : lv_has ls 4 [(0, .ref (oc 4)), (1, .int a1), (2, .int a2)] := hl
  have hx := C.1.1
  have hb := C.1.2.1
  unfold mX4_tag at hm
  refine lv_aload_n hx hb dX4_tag_0 rfl (lv_at hl 0 rfl) ?_
  refine g_get C hw gC4_0 dX4_tag_1 ?_
  refine lv_bipush (v := 6) hx hb dX4_tag_4 cb_6 ?_
  refine lv_iload_n hx hb dX4_tag_6 rfl (lv_at hl 1 rfl) ?_
  obtain ⟨r7, iv7, ar7, la7, pA7, pB7, hc7, hm⟩ := obc_some hm
  refine g_calli (As := [.int 6, .int a1]) (rest := []) C hw (kX10_add hc7) mtX10_add lkX4_96 oC10 hl.1 rfl rfl (Nat.le_of_ble_eq_true rfl) ⟨Nat.le_of_ble_eq_true rfl, Nat.le_of_ble_eq_true rfl⟩ dX4_tag_7 ⟨Nat.zero_le _, Nat.zero_le _⟩ (fun H locs hw => ?_)
  refine lv_istore_n (lv' := [(3, .int r7), (0, .ref (oc 4)), (1, .int a1), (2, .int a2)]) hx hb dX4_tag_10 rfl hl (by decide) rfl (fun ls hl => ?_)
  refine lv_aload_n hx hb dX4_tag_11 rfl (lv_at hl 1 rfl) ?_
  refine g_get C hw gC4_0 dX4_tag_12 ?_
  refine lv_iload_n hx hb dX4_tag_15 rfl (lv_at hl 0 rfl) ?_
  refine lv_iload_n hx hb dX4_tag_16 rfl (lv_at hl 2 rfl) ?_
  refine lv_iload_n hx hb dX4_tag_17 rfl (lv_at hl 3 rfl) ?_
  obtain ⟨r18, iv18, ar18, la18, pA18, pB18, hc18, hm⟩ := obc_some hm
  refine g_callv (As := [.int r7, .int a1, .int a2]) (rest := []) C hw (kX10_setPart hc18) mtX10_setPart lkX4_158 oC10 hl.1 rfl rfl (Nat.le_of_ble_eq_true rfl) ⟨Nat.le_of_ble_eq_true rfl, Nat.le_of_ble_eq_true rfl⟩ dX4_tag_18 ⟨Nat.zero_le _, Nat.zero_le _⟩ (fun H locs hw => ?_)
  refine lv_iload_n hx hb dX4_tag_21 rfl (lv_at hl 0 rfl) ?_
  cases hm
  exact g_iret C hw dX4_tag_22
def mX4_caseFor_L2 : Nat → Int32 → Int32 → Int32 → mI → mA → mL → mA → mA → Option (Int32 × mI × mA × mL × mA × mA)
  | 0, _, _, _, _, _, _, _, _ => none
  | n + 1, l1, l2, l3, iv, ar, la, pA, pB => obc (mX6_kidCountA l1 iv ar la pA pB) (fun r8 iv8 ar8 la8 pA8 pB8 => if (r8 - 1) ≤ l3 then some ((-1), iv8, ar8, la8, pA8, pB8) else obc (mX6_kidA l1 l3 iv8 ar8 la8 pA8 pB8) (fun r26 iv26 ar26 la26 pA26 pB26 => obc (mX6_labelOfA r26 iv26 ar26 la26 pA26 pB26) (fun r29 iv29 ar29 la29 pA29 pB29 => if r29 = l2 then obc (mX6_kidA l1 l3 iv29 ar29 la29 pA29 pB29) (fun r42 iv42 ar42 la42 pA42 pB42 => some (r42, iv42, ar42, la42, pA42, pB42)) else mX4_caseFor_L2 n l1 l2 (l3 + 1) iv29 ar29 la29 pA29 pB29)))
set_option maxRecDepth 100000 in
set_option maxHeartbeats 4000000 in
theorem wX4_caseFor_L2 (C : mCx p s m args meth c RX4 cX4_caseFor 4 (some .int) D cI cJ A) (n : Nat) : ∀ (l1 : Int32) (l2 : Int32) (l3 : Int32) (iv : mI) (ar : mA) (la : mL) (pA : mA) (pB : mA) (rz : Int32) (ivz : mI) (arz : mA) (laz : mL) (pAz : mA) (pBz : mA), mX4_caseFor_L2 n l1 l2 l3 iv ar la pA pB = some (rz, ivz, arz, laz, pAz, pBz) → ∀ (H : Heap) (locs : List Loc) (ls : Array Slot), lv_has ls 4 [(0, .ref (oc 4)), (1, .int l1), (2, .int l2), (3, .int l3)] → inW D A s (wC cI cJ oc ac pa pb aa ab xp xs tp cp pa iv ar la pA pB) H locs → W p l e (rmO 1 23) s m args below meth c H locs 0 0 (MQ below (ctQ D cI cJ (wC cI cJ oc ac pa pb aa ab xp xs tp cp pa ivz arz laz pAz pBz) A rz) args s 0 0 A) (F0 m 2 ls []) := by
  induction n with
  | zero =>
    intro l1 l2 l3 iv ar la pA pB rz ivz arz laz pAz pBz hm H locs ls hl hw
    have hm : (none : Option (Int32 × mI × mA × mL × mA × mA)) = some _ := hm
    cases hm
  | succ n ih =>
    intro l1 l2 l3 iv ar la pA pB rz ivz arz laz pAz pBz hm H locs ls hl hw
    have hx := C.1.1
    have hb := C.1.2.1
    unfold mX4_caseFor_L2 at hm
    refine lv_iload_n hx hb dX4_caseFor_2 rfl (lv_at hl 3 rfl) ?_
    refine lv_aload_n hx hb dX4_caseFor_3 rfl (lv_at hl 0 rfl) ?_
    refine g_get C hw gC4_2 dX4_caseFor_4 ?_
    refine lv_iload_n hx hb dX4_caseFor_7 rfl (lv_at hl 1 rfl) ?_
    obtain ⟨r8, iv8, ar8, la8, pA8, pB8, hc8, hm⟩ := obc_some hm
    refine g_calli (As := [.int l1]) (rest := [.int l3]) C hw (kX6_kidCountA hc8) mtX6_kidCount lkX4_113 oC6A hl.1 rfl rfl (Nat.le_of_ble_eq_true rfl) ⟨Nat.le_of_ble_eq_true rfl, Nat.le_of_ble_eq_true rfl⟩ dX4_caseFor_8 ⟨Nat.zero_le _, Nat.zero_le _⟩ (fun H locs hw => ?_)
    refine lv_iconst (v := 1) hx hb dX4_caseFor_11 ci_1 ?_
    refine lv_isub hx hb dX4_caseFor_12 ?_
    refine lv_icmp_ge (tgt := 52) hx hb dX4_caseFor_13 (by decide) (fun hc => ?_) (fun hc => ?_)
    · have hm := it_t hc hm
      refine lv_iconst (v := (-1)) hx hb dX4_caseFor_52 ci_m1 ?_
      cases hm
      exact g_iret C hw dX4_caseFor_53
    · have hm := it_f hc hm
      refine lv_aload_n hx hb dX4_caseFor_16 rfl (lv_at hl 0 rfl) ?_
      refine g_get C hw gC4_2 dX4_caseFor_17 ?_
      refine lv_aload_n hx hb dX4_caseFor_20 rfl (lv_at hl 0 rfl) ?_
      refine g_get C hw gC4_2 dX4_caseFor_21 ?_
      refine lv_iload_n hx hb dX4_caseFor_24 rfl (lv_at hl 1 rfl) ?_
      refine lv_iload_n hx hb dX4_caseFor_25 rfl (lv_at hl 3 rfl) ?_
      obtain ⟨r26, iv26, ar26, la26, pA26, pB26, hc26, hm⟩ := obc_some hm
      refine g_calli (As := [.int l1, .int l3]) (rest := [.ref pa]) C hw (kX6_kidA hc26) mtX6_kid lkX4_109 oC6A hl.1 rfl rfl (Nat.le_of_ble_eq_true rfl) ⟨Nat.le_of_ble_eq_true rfl, Nat.le_of_ble_eq_true rfl⟩ dX4_caseFor_26 ⟨Nat.zero_le _, Nat.zero_le _⟩ (fun H locs hw => ?_)
      obtain ⟨r29, iv29, ar29, la29, pA29, pB29, hc29, hm⟩ := obc_some hm
      refine g_calli (As := [.int r26]) (rest := []) C hw (kX6_labelOfA hc29) mtX6_labelOf lkX4_155 oC6A hl.1 rfl rfl (Nat.le_of_ble_eq_true rfl) ⟨Nat.le_of_ble_eq_true rfl, Nat.le_of_ble_eq_true rfl⟩ dX4_caseFor_29 ⟨Nat.zero_le _, Nat.zero_le _⟩ (fun H locs hw => ?_)
      refine lv_iload_n hx hb dX4_caseFor_32 rfl (lv_at hl 2 rfl) ?_
      refine lv_icmp_ne (tgt := 46) hx hb dX4_caseFor_33 (by decide) (fun hc => ?_) (fun hc => ?_)
      · have hm := it_f hc hm
        refine lv_iinc (v := (l3 + 1)) (lv' := [(3, .int (l3 + 1)), (0, .ref (oc 4)), (1, .int l1), (2, .int l2)]) hx hb dX4_caseFor_46 hl (k := 3) rfl (ii_ ci_1) (by decide) rfl (fun ls hl => ?_)
        refine lv_goto (tgt := 2) hx hb dX4_caseFor_49 (by decide) ?_
        exact ih _ _ _ _ _ _ _ _ _ _ _ _ _ _ hm _ _ _ (lv_sub hl [1, 2, 3, 0] rfl) hw
      · have hm := it_t hc hm
        refine lv_aload_n hx hb dX4_caseFor_36 rfl (lv_at hl 0 rfl) ?_
        refine g_get C hw gC4_2 dX4_caseFor_37 ?_
        refine lv_iload_n hx hb dX4_caseFor_40 rfl (lv_at hl 1 rfl) ?_
        refine lv_iload_n hx hb dX4_caseFor_41 rfl (lv_at hl 3 rfl) ?_
        obtain ⟨r42, iv42, ar42, la42, pA42, pB42, hc42, hm⟩ := obc_some hm
        refine g_calli (As := [.int l1, .int l3]) (rest := []) C hw (kX6_kidA hc42) mtX6_kid lkX4_109 oC6A hl.1 rfl rfl (Nat.le_of_ble_eq_true rfl) ⟨Nat.le_of_ble_eq_true rfl, Nat.le_of_ble_eq_true rfl⟩ dX4_caseFor_42 ⟨Nat.zero_le _, Nat.zero_le _⟩ (fun H locs hw => ?_)
        cases hm
        exact g_iret C hw dX4_caseFor_45
def mX4_caseFor (a1 : Int32) (a2 : Int32) (iv : mI) (ar : mA) (la : mL) (pA : mA) (pB : mA) : Option (Int32 × mI × mA × mL × mA × mA) := mX4_caseFor_L2 bigF a1 a2 0 iv ar la pA pB
set_option maxRecDepth 100000 in
set_option maxHeartbeats 4000000 in
theorem kX4_caseFor {a1 a2 : Int32} {iv ivz : mI} {ar arz : mA} {la laz : mL} {pA pAz : mA} {pB pBz : mA} {rz : Int32} (hm : mX4_caseFor a1 a2 iv ar la pA pB = some (rz, ivz, arz, laz, pAz, pBz)) : Ct l D cI cJ yX4_caseFor cX4_caseFor 4 (some .int) 1 23 [.ref (oc 4), .int a1, .int a2] (wC cI cJ oc ac pa pb aa ab xp xs tp cp pa iv ar la pA pB) (wC cI cJ oc ac pa pb aa ab xp xs tp cp pa ivz arz laz pAz pBz) rz := by
  intro sz
  refine ct_of (by decide) (Nat.le_of_ble_eq_true rfl) ?_
  intro p e s m args below meth c C hw ls hl
  have hl : lv_has ls 4 [(0, .ref (oc 4)), (1, .int a1), (2, .int a2)] := hl
  have hx := C.1.1
  have hb := C.1.2.1
  unfold mX4_caseFor at hm
  refine lv_iconst (v := 0) hx hb dX4_caseFor_0 ci_0 ?_
  refine lv_istore_n (lv' := [(3, .int 0), (0, .ref (oc 4)), (1, .int a1), (2, .int a2)]) hx hb dX4_caseFor_1 rfl hl (by decide) rfl (fun ls hl => ?_)
  exact wX4_caseFor_L2 C bigF _ _ _ _ _ _ _ _ _ _ _ _ _ _ hm _ _ _ (lv_sub hl [1, 2, 3, 0] rfl) hw
def mX4_partOfChoice (a1 : Int32) (iv : mI) (ar : mA) (la : mL) (pA : mA) (pB : mA) : Option (Int32 × mI × mA × mL × mA × mA) := obc (mX10_numberOf a1 iv ar la pA pB) (fun r10 iv10 ar10 la10 pA10 pB10 => obc (mX10_partOf a1 r10 iv10 ar10 la10 pA10 pB10) (fun r13 iv13 ar13 la13 pA13 pB13 => some (r13, iv13, ar13, la13, pA13, pB13)))
set_option maxRecDepth 100000 in
set_option maxHeartbeats 4000000 in
theorem kX4_partOfChoice {a1 : Int32} {iv ivz : mI} {ar arz : mA} {la laz : mL} {pA pAz : mA} {pB pBz : mA} {rz : Int32} (hm : mX4_partOfChoice a1 iv ar la pA pB = some (rz, ivz, arz, laz, pAz, pBz)) : Ct l D cI cJ yX4_partOfChoice cX4_partOfChoice 2 (some .int) 2 45 [.ref (oc 4), .int a1] (wC cI cJ oc ac pa pb aa ab xp xs tp cp pa iv ar la pA pB) (wC cI cJ oc ac pa pb aa ab xp xs tp cp pa ivz arz laz pAz pBz) rz := by
  intro sz
  refine ct_of (by decide) (Nat.le_of_ble_eq_true rfl) ?_
  intro p e s m args below meth c C hw ls hl
  have hl : lv_has ls 2 [(0, .ref (oc 4)), (1, .int a1)] := hl
  have hx := C.1.1
  have hb := C.1.2.1
  unfold mX4_partOfChoice at hm
  refine lv_aload_n hx hb dX4_partOfChoice_0 rfl (lv_at hl 0 rfl) ?_
  refine g_get C hw gC4_0 dX4_partOfChoice_1 ?_
  refine lv_iload_n hx hb dX4_partOfChoice_4 rfl (lv_at hl 1 rfl) ?_
  refine lv_aload_n hx hb dX4_partOfChoice_5 rfl (lv_at hl 0 rfl) ?_
  refine g_get C hw gC4_0 dX4_partOfChoice_6 ?_
  refine lv_iload_n hx hb dX4_partOfChoice_9 rfl (lv_at hl 1 rfl) ?_
  obtain ⟨r10, iv10, ar10, la10, pA10, pB10, hc10, hm⟩ := obc_some hm
  refine g_calli (As := [.int a1]) (rest := [.int a1, .ref (oc 10)]) C hw (kX10_numberOf hc10) mtX10_numberOf lkX4_137 oC10 hl.1 rfl rfl (Nat.le_of_ble_eq_true rfl) ⟨Nat.le_of_ble_eq_true rfl, Nat.le_of_ble_eq_true rfl⟩ dX4_partOfChoice_10 ⟨Nat.zero_le _, Nat.zero_le _⟩ (fun H locs hw => ?_)
  obtain ⟨r13, iv13, ar13, la13, pA13, pB13, hc13, hm⟩ := obc_some hm
  refine g_calli (As := [.int a1, .int r10]) (rest := []) C hw (kX10_partOf hc13) mtX10_partOf lkX4_143 oC10 hl.1 rfl rfl (Nat.le_of_ble_eq_true rfl) ⟨Nat.le_of_ble_eq_true rfl, Nat.le_of_ble_eq_true rfl⟩ dX4_partOfChoice_13 ⟨Nat.zero_le _, Nat.zero_le _⟩ (fun H locs hw => ?_)
  cases hm
  exact g_iret C hw dX4_partOfChoice_16
def mX4_finish (a1 : Int32) (a2 : Int32) (a3 : Int32) (iv : mI) (ar : mA) (la : mL) (pA : mA) (pB : mA) : Option (Int32 × mI × mA × mL × mA × mA) := obc (mX6_wordA a1 iv ar la pA pB) (fun r5 iv5 ar5 la5 pA5 pB5 => if r5 = 22 then obc (mX10_lambdaOf a2 iv5 ar5 la5 pA5 pB5) (fun r74 iv74 ar74 la74 pA74 pB74 => obc (mX6_kidA r74 0 iv74 ar74 la74 pA74 pB74) (fun r78 iv78 ar78 la78 pA78 pB78 => obc (mX10_cellOf a2 iv78 ar78 la78 pA78 pB78) (fun r94 iv94 ar94 la94 pA94 pB94 => obc (mX1_add (iv78 412) r94 iv94 ar94 la94 pA94 pB94) (fun r97 iv97 ar97 la97 pA97 pB97 => obc (mX4_want r78 r97 iv97 ar97 la97 pA97 pB97) (fun r100 iv100 ar100 la100 pA100 pB100 => some (0, iv100, ar100, la100, pA100, pB100)))))) else if r5 = 23 then obc (mX10_numberOf a2 iv5 ar5 la5 pA5 pB5) (fun r287 iv287 ar287 la287 pA287 pB287 => obc (mX4_caseFor a1 r287 iv287 ar287 la287 pA287 pB287) (fun r290 iv290 ar290 la290 pA290 pB290 => obc (mX4_partOfChoice a2 iv290 ar290 la290 pA290 pB290) (fun r299 iv299 ar299 la299 pA299 pB299 => obc (mX1_add r299 a3 iv299 ar299 la299 pA299 pB299) (fun r303 iv303 ar303 la303 pA303 pB303 => obc (mX4_want r290 r303 iv303 ar303 la303 pA303 pB303) (fun r306 iv306 ar306 la306 pA306 pB306 => some (0, iv306, ar306, la306, pA306, pB306)))))) else if r5 = 24 then obc (mX10_numberOf a2 iv5 ar5 la5 pA5 pB5) (fun r117 iv117 ar117 la117 pA117 pB117 => obc (mX10_numberOf (iv117 412) iv117 ar117 la117 pA117 pB117) (fun r128 iv128 ar128 la128 pA128 pB128 => obc (mX10_add 2 (r117 + r128) iv128 ar128 la128 pA128 pB128) (fun r132 iv132 ar132 la132 pA132 pB132 => obc (mX4_give r132 iv132 ar132 la132 pA132 pB132) (fun r135 iv135 ar135 la135 pA135 pB135 => some (0, iv135, ar135, la135, pA135, pB135))))) else if r5 = 25 then obc (mX10_numberOf a2 iv5 ar5 la5 pA5 pB5) (fun r152 iv152 ar152 la152 pA152 pB152 => obc (mX10_numberOf (iv152 412) iv152 ar152 la152 pA152 pB152) (fun r163 iv163 ar163 la163 pA163 pB163 => if r163 ≤ r152 then obc (mX10_add 3 0 iv163 ar163 la163 pA163 pB163) (fun r174 iv174 ar174 la174 pA174 pB174 => obc (mX4_give r174 iv174 ar174 la174 pA174 pB174) (fun r177 iv177 ar177 la177 pA177 pB177 => some (0, iv177, ar177, la177, pA177, pB177))) else obc (mX10_add 3 1 iv163 ar163 la163 pA163 pB163) (fun r174 iv174 ar174 la174 pA174 pB174 => obc (mX4_give r174 iv174 ar174 la174 pA174 pB174) (fun r177 iv177 ar177 la177 pA177 pB177 => some (0, iv177, ar177, la177, pA177, pB177))))) else if r5 = 26 then obc (mX10_numberOf a2 iv5 ar5 la5 pA5 pB5) (fun r287 iv287 ar287 la287 pA287 pB287 => obc (mX4_caseFor a1 r287 iv287 ar287 la287 pA287 pB287) (fun r290 iv290 ar290 la290 pA290 pB290 => obc (mX4_partOfChoice a2 iv290 ar290 la290 pA290 pB290) (fun r299 iv299 ar299 la299 pA299 pB299 => obc (mX1_add r299 a3 iv299 ar299 la299 pA299 pB299) (fun r303 iv303 ar303 la303 pA303 pB303 => obc (mX4_want r290 r303 iv303 ar303 la303 pA303 pB303) (fun r306 iv306 ar306 la306 pA306 pB306 => some (0, iv306, ar306, la306, pA306, pB306)))))) else if r5 = 27 then obc (mX10_numberOf a2 iv5 ar5 la5 pA5 pB5) (fun r287 iv287 ar287 la287 pA287 pB287 => obc (mX4_caseFor a1 r287 iv287 ar287 la287 pA287 pB287) (fun r290 iv290 ar290 la290 pA290 pB290 => obc (mX4_partOfChoice a2 iv290 ar290 la290 pA290 pB290) (fun r299 iv299 ar299 la299 pA299 pB299 => obc (mX1_add r299 a3 iv299 ar299 la299 pA299 pB299) (fun r303 iv303 ar303 la303 pA303 pB303 => obc (mX4_want r290 r303 iv303 ar303 la303 pA303 pB303) (fun r306 iv306 ar306 la306 pA306 pB306 => some (0, iv306, ar306, la306, pA306, pB306)))))) else if r5 = 28 then obc (mX10_numberOf a2 iv5 ar5 la5 pA5 pB5) (fun r194 iv194 ar194 la194 pA194 pB194 => if r194 = 1 then obc (mX6_kidA a1 1 iv194 ar194 la194 pA194 pB194) (fun r206 iv206 ar206 la206 pA206 pB206 => obc (mX4_want r206 a3 iv206 ar206 la206 pA206 pB206) (fun r210 iv210 ar210 la210 pA210 pB210 => some (0, iv210, ar210, la210, pA210, pB210))) else obc (mX6_kidA a1 2 iv194 ar194 la194 pA194 pB194) (fun r206 iv206 ar206 la206 pA206 pB206 => obc (mX4_want r206 a3 iv206 ar206 la206 pA206 pB206) (fun r210 iv210 ar210 la210 pA210 pB210 => some (0, iv210, ar210, la210, pA210, pB210)))) else if r5 = 29 then obc (mX4_gather a1 (iv5 407) iv5 ar5 la5 pA5 pB5) (fun r223 iv223 ar223 la223 pA223 pB223 => obc (mX4_give r223 iv223 ar223 la223 pA223 pB223) (fun r226 iv226 ar226 la226 pA226 pB226 => some (0, iv226, ar226, la226, pA226, pB226))) else if r5 = 30 then obc (mX6_wordA (a1 + 1) iv5 ar5 la5 pA5 pB5) (fun r245 iv245 ar245 la245 pA245 pB245 => obc (mX10_partOf a2 r245 iv245 ar245 la245 pA245 pB245) (fun r248 iv248 ar248 la248 pA248 pB248 => obc (mX4_give r248 iv248 ar248 la248 pA248 pB248) (fun r251 iv251 ar251 la251 pA251 pB251 => some (0, iv251, ar251, la251, pA251, pB251)))) else if r5 = 31 then obc (mX6_wordA (a1 + 2) iv5 ar5 la5 pA5 pB5) (fun r266 iv266 ar266 la266 pA266 pB266 => obc (mX4_tag r266 a2 iv266 ar266 la266 pA266 pB266) (fun r270 iv270 ar270 la270 pA270 pB270 => obc (mX4_give r270 iv270 ar270 la270 pA270 pB270) (fun r273 iv273 ar273 la273 pA273 pB273 => some (0, iv273, ar273, la273, pA273, pB273)))) else obc (mX10_numberOf a2 iv5 ar5 la5 pA5 pB5) (fun r287 iv287 ar287 la287 pA287 pB287 => obc (mX4_caseFor a1 r287 iv287 ar287 la287 pA287 pB287) (fun r290 iv290 ar290 la290 pA290 pB290 => obc (mX4_partOfChoice a2 iv290 ar290 la290 pA290 pB290) (fun r299 iv299 ar299 la299 pA299 pB299 => obc (mX1_add r299 a3 iv299 ar299 la299 pA299 pB299) (fun r303 iv303 ar303 la303 pA303 pB303 => obc (mX4_want r290 r303 iv303 ar303 la303 pA303 pB303) (fun r306 iv306 ar306 la306 pA306 pB306 => some (0, iv306, ar306, la306, pA306, pB306)))))))
set_option maxRecDepth 100000 in
set_option maxHeartbeats 4000000 in
theorem kX4_finish {a1 a2 a3 : Int32} {iv ivz : mI} {ar arz : mA} {la laz : mL} {pA pAz : mA} {pB pBz : mA} {rz : Int32} (hm : mX4_finish a1 a2 a3 iv ar la pA pB = some (rz, ivz, arz, laz, pAz, pBz)) : CtV l D cI cJ yX4_finish cX4_finish 4 3 69 [.ref (oc 4), .int a1, .int a2, .int a3] (wC cI cJ oc ac pa pb aa ab xp xs tp cp pa iv ar la pA pB) (wC cI cJ oc ac pa pb aa ab xp xs tp cp pa ivz arz laz pAz pBz) := by
  intro sz
  refine ct_of (by decide) (Nat.le_of_ble_eq_true rfl) ?_
  intro p e s m args below meth c C hw ls hl
  have hl : lv_has ls 4 [(0, .ref (oc 4)), (1, .int a1), (2, .int a2), (3, .int a3)] := hl
  have hx := C.1.1
  have hb := C.1.2.1
  unfold mX4_finish at hm
  refine lv_aload_n hx hb dX4_finish_0 rfl (lv_at hl 0 rfl) ?_
  refine g_get C hw gC4_2 dX4_finish_1 ?_
  refine lv_iload_n hx hb dX4_finish_4 rfl (lv_at hl 1 rfl) ?_
  obtain ⟨r5, iv5, ar5, la5, pA5, pB5, hc5, hm⟩ := obc_some hm
  refine g_calli (As := [.int a1]) (rest := []) C hw (kX6_wordA hc5) mtX6_word lkX4_79 oC6A hl.1 rfl rfl (Nat.le_of_ble_eq_true rfl) ⟨Nat.le_of_ble_eq_true rfl, Nat.le_of_ble_eq_true rfl⟩ dX4_finish_5 ⟨Nat.zero_le _, Nat.zero_le _⟩ (fun H locs hw => ?_)
  refine br_by (c := r5 = 22) (fun hc => ?_) (fun hc22 => ?_)
  · have hm := it_t hc hm
    refine lv_tableIn (off := 56) (tgt := 64) hx hb dX4_finish_8 (by rw [hc]; decide) (by rw [hc]; decide) (by rw [hc]; rfl) (by decide) ?_
    refine lv_aload_n hx hb dX4_finish_64 rfl (lv_at hl 0 rfl) ?_
    refine lv_aload_n hx hb dX4_finish_65 rfl (lv_at hl 0 rfl) ?_
    refine g_get C hw gC4_2 dX4_finish_66 ?_
    refine lv_aload_n hx hb dX4_finish_69 rfl (lv_at hl 0 rfl) ?_
    refine g_get C hw gC4_0 dX4_finish_70 ?_
    refine lv_iload_n hx hb dX4_finish_73 rfl (lv_at hl 2 rfl) ?_
    obtain ⟨r74, iv74, ar74, la74, pA74, pB74, hc74, hm⟩ := obc_some hm
    refine g_calli (As := [.int a2]) (rest := [.ref pa, .ref (oc 4)]) C hw (kX10_lambdaOf hc74) mtX10_lambdaOf lkX4_131 oC10 hl.1 rfl rfl (Nat.le_of_ble_eq_true rfl) ⟨Nat.le_of_ble_eq_true rfl, Nat.le_of_ble_eq_true rfl⟩ dX4_finish_74 ⟨Nat.zero_le _, Nat.zero_le _⟩ (fun H locs hw => ?_)
    refine lv_iconst (v := 0) hx hb dX4_finish_77 ci_0 ?_
    obtain ⟨r78, iv78, ar78, la78, pA78, pB78, hc78, hm⟩ := obc_some hm
    refine g_calli (As := [.int r74, .int 0]) (rest := [.ref (oc 4)]) C hw (kX6_kidA hc78) mtX6_kid lkX4_109 oC6A hl.1 rfl rfl (Nat.le_of_ble_eq_true rfl) ⟨Nat.le_of_ble_eq_true rfl, Nat.le_of_ble_eq_true rfl⟩ dX4_finish_78 ⟨Nat.zero_le _, Nat.zero_le _⟩ (fun H locs hw => ?_)
    refine lv_aload_n hx hb dX4_finish_81 rfl (lv_at hl 0 rfl) ?_
    refine g_get C hw gC4_1 dX4_finish_82 ?_
    refine lv_aload_n hx hb dX4_finish_85 rfl (lv_at hl 0 rfl) ?_
    refine g_get C hw gC4_12 dX4_finish_86 ?_
    refine lv_aload_n hx hb dX4_finish_89 rfl (lv_at hl 0 rfl) ?_
    refine g_get C hw gC4_0 dX4_finish_90 ?_
    refine lv_iload_n hx hb dX4_finish_93 rfl (lv_at hl 2 rfl) ?_
    obtain ⟨r94, iv94, ar94, la94, pA94, pB94, hc94, hm⟩ := obc_some hm
    refine g_calli (As := [.int a2]) (rest := [.int (iv78 412), .ref (oc 1), .int r78, .ref (oc 4)]) C hw (kX10_cellOf hc94) mtX10_cellOf lkX4_134 oC10 hl.1 rfl rfl (Nat.le_of_ble_eq_true rfl) ⟨Nat.le_of_ble_eq_true rfl, Nat.le_of_ble_eq_true rfl⟩ dX4_finish_94 ⟨Nat.zero_le _, Nat.zero_le _⟩ (fun H locs hw => ?_)
    obtain ⟨r97, iv97, ar97, la97, pA97, pB97, hc97, hm⟩ := obc_some hm
    refine g_calli (As := [.int (iv78 412), .int r94]) (rest := [.int r78, .ref (oc 4)]) C hw (kX1_add hc97) mtX1_add lkX4_112 oC1 hl.1 rfl rfl (Nat.le_of_ble_eq_true rfl) ⟨Nat.le_of_ble_eq_true rfl, Nat.le_of_ble_eq_true rfl⟩ dX4_finish_97 ⟨Nat.zero_le _, Nat.zero_le _⟩ (fun H locs hw => ?_)
    obtain ⟨r100, iv100, ar100, la100, pA100, pB100, hc100, hm⟩ := obc_some hm
    refine g_callv (As := [.int r78, .int r97]) (rest := []) C hw (kX4_want hc100) mtX4_want lkX4_59 oC4 hl.1 rfl rfl (Nat.le_of_ble_eq_true rfl) ⟨Nat.le_of_ble_eq_true rfl, Nat.le_of_ble_eq_true rfl⟩ dX4_finish_100 ⟨Nat.zero_le _, Nat.zero_le _⟩ (fun H locs hw => ?_)
    refine lv_goto (tgt := 309) hx hb dX4_finish_103 (by decide) ?_
    cases hm
    exact g_vret C hw dX4_finish_309
  · have hm := it_f hc22 hm
    refine br_by (c := r5 = 23) (fun hc => ?_) (fun hc23 => ?_)
    · have hm := it_t hc hm
      refine lv_tableIn (off := 271) (tgt := 279) hx hb dX4_finish_8 (by rw [hc]; decide) (by rw [hc]; decide) (by rw [hc]; rfl) (by decide) ?_
      refine lv_aload_n hx hb dX4_finish_279 rfl (lv_at hl 0 rfl) ?_
      refine lv_aload_n hx hb dX4_finish_280 rfl (lv_at hl 0 rfl) ?_
      refine lv_iload_n hx hb dX4_finish_281 rfl (lv_at hl 1 rfl) ?_
      refine lv_aload_n hx hb dX4_finish_282 rfl (lv_at hl 0 rfl) ?_
      refine g_get C hw gC4_0 dX4_finish_283 ?_
      refine lv_iload_n hx hb dX4_finish_286 rfl (lv_at hl 2 rfl) ?_
      obtain ⟨r287, iv287, ar287, la287, pA287, pB287, hc287, hm⟩ := obc_some hm
      refine g_calli (As := [.int a2]) (rest := [.int a1, .ref (oc 4), .ref (oc 4)]) C hw (kX10_numberOf hc287) mtX10_numberOf lkX4_137 oC10 hl.1 rfl rfl (Nat.le_of_ble_eq_true rfl) ⟨Nat.le_of_ble_eq_true rfl, Nat.le_of_ble_eq_true rfl⟩ dX4_finish_287 ⟨Nat.zero_le _, Nat.zero_le _⟩ (fun H locs hw => ?_)
      obtain ⟨r290, iv290, ar290, la290, pA290, pB290, hc290, hm⟩ := obc_some hm
      refine g_calli (As := [.int a1, .int r287]) (rest := [.ref (oc 4)]) C hw (kX4_caseFor hc290) mtX4_caseFor lkX4_149 oC4 hl.1 rfl rfl (Nat.le_of_ble_eq_true rfl) ⟨Nat.le_of_ble_eq_true rfl, Nat.le_of_ble_eq_true rfl⟩ dX4_finish_290 ⟨Nat.zero_le _, Nat.zero_le _⟩ (fun H locs hw => ?_)
      refine lv_aload_n hx hb dX4_finish_293 rfl (lv_at hl 0 rfl) ?_
      refine g_get C hw gC4_1 dX4_finish_294 ?_
      refine lv_aload_n hx hb dX4_finish_297 rfl (lv_at hl 0 rfl) ?_
      refine lv_iload_n hx hb dX4_finish_298 rfl (lv_at hl 2 rfl) ?_
      obtain ⟨r299, iv299, ar299, la299, pA299, pB299, hc299, hm⟩ := obc_some hm
      refine g_calli (As := [.int a2]) (rest := [.ref (oc 1), .int r290, .ref (oc 4)]) C hw (kX4_partOfChoice hc299) mtX4_partOfChoice lkX4_152 oC4 hl.1 rfl rfl (Nat.le_of_ble_eq_true rfl) ⟨Nat.le_of_ble_eq_true rfl, Nat.le_of_ble_eq_true rfl⟩ dX4_finish_299 ⟨Nat.zero_le _, Nat.zero_le _⟩ (fun H locs hw => ?_)
      refine lv_iload_n hx hb dX4_finish_302 rfl (lv_at hl 3 rfl) ?_
      obtain ⟨r303, iv303, ar303, la303, pA303, pB303, hc303, hm⟩ := obc_some hm
      refine g_calli (As := [.int r299, .int a3]) (rest := [.int r290, .ref (oc 4)]) C hw (kX1_add hc303) mtX1_add lkX4_112 oC1 hl.1 rfl rfl (Nat.le_of_ble_eq_true rfl) ⟨Nat.le_of_ble_eq_true rfl, Nat.le_of_ble_eq_true rfl⟩ dX4_finish_303 ⟨Nat.zero_le _, Nat.zero_le _⟩ (fun H locs hw => ?_)
      obtain ⟨r306, iv306, ar306, la306, pA306, pB306, hc306, hm⟩ := obc_some hm
      refine g_callv (As := [.int r290, .int r303]) (rest := []) C hw (kX4_want hc306) mtX4_want lkX4_59 oC4 hl.1 rfl rfl (Nat.le_of_ble_eq_true rfl) ⟨Nat.le_of_ble_eq_true rfl, Nat.le_of_ble_eq_true rfl⟩ dX4_finish_306 ⟨Nat.zero_le _, Nat.zero_le _⟩ (fun H locs hw => ?_)
      cases hm
      exact g_vret C hw dX4_finish_309
    · have hm := it_f hc23 hm
      refine br_by (c := r5 = 24) (fun hc => ?_) (fun hc24 => ?_)
      · have hm := it_t hc hm
        refine lv_tableIn (off := 98) (tgt := 106) hx hb dX4_finish_8 (by rw [hc]; decide) (by rw [hc]; decide) (by rw [hc]; rfl) (by decide) ?_
        refine lv_aload_n hx hb dX4_finish_106 rfl (lv_at hl 0 rfl) ?_
        refine lv_aload_n hx hb dX4_finish_107 rfl (lv_at hl 0 rfl) ?_
        refine g_get C hw gC4_0 dX4_finish_108 ?_
        refine lv_iconst (v := 2) hx hb dX4_finish_111 ci_2 ?_
        refine lv_aload_n hx hb dX4_finish_112 rfl (lv_at hl 0 rfl) ?_
        refine g_get C hw gC4_0 dX4_finish_113 ?_
        refine lv_iload_n hx hb dX4_finish_116 rfl (lv_at hl 2 rfl) ?_
        obtain ⟨r117, iv117, ar117, la117, pA117, pB117, hc117, hm⟩ := obc_some hm
        refine g_calli (As := [.int a2]) (rest := [.int 2, .ref (oc 10), .ref (oc 4)]) C hw (kX10_numberOf hc117) mtX10_numberOf lkX4_137 oC10 hl.1 rfl rfl (Nat.le_of_ble_eq_true rfl) ⟨Nat.le_of_ble_eq_true rfl, Nat.le_of_ble_eq_true rfl⟩ dX4_finish_117 ⟨Nat.zero_le _, Nat.zero_le _⟩ (fun H locs hw => ?_)
        refine lv_aload_n hx hb dX4_finish_120 rfl (lv_at hl 0 rfl) ?_
        refine g_get C hw gC4_0 dX4_finish_121 ?_
        refine lv_aload_n hx hb dX4_finish_124 rfl (lv_at hl 0 rfl) ?_
        refine g_get C hw gC4_12 dX4_finish_125 ?_
        obtain ⟨r128, iv128, ar128, la128, pA128, pB128, hc128, hm⟩ := obc_some hm
        refine g_calli (As := [.int (iv117 412)]) (rest := [.int r117, .int 2, .ref (oc 10), .ref (oc 4)]) C hw (kX10_numberOf hc128) mtX10_numberOf lkX4_137 oC10 hl.1 rfl rfl (Nat.le_of_ble_eq_true rfl) ⟨Nat.le_of_ble_eq_true rfl, Nat.le_of_ble_eq_true rfl⟩ dX4_finish_128 ⟨Nat.zero_le _, Nat.zero_le _⟩ (fun H locs hw => ?_)
        refine lv_iadd hx hb dX4_finish_131 ?_
        obtain ⟨r132, iv132, ar132, la132, pA132, pB132, hc132, hm⟩ := obc_some hm
        refine g_calli (As := [.int 2, .int (r117 + r128)]) (rest := [.ref (oc 4)]) C hw (kX10_add hc132) mtX10_add lkX4_96 oC10 hl.1 rfl rfl (Nat.le_of_ble_eq_true rfl) ⟨Nat.le_of_ble_eq_true rfl, Nat.le_of_ble_eq_true rfl⟩ dX4_finish_132 ⟨Nat.zero_le _, Nat.zero_le _⟩ (fun H locs hw => ?_)
        obtain ⟨r135, iv135, ar135, la135, pA135, pB135, hc135, hm⟩ := obc_some hm
        refine g_callv (As := [.int r132]) (rest := []) C hw (kX4_give hc135) mtX4_give lkX4_89 oC4 hl.1 rfl rfl (Nat.le_of_ble_eq_true rfl) ⟨Nat.le_of_ble_eq_true rfl, Nat.le_of_ble_eq_true rfl⟩ dX4_finish_135 ⟨Nat.zero_le _, Nat.zero_le _⟩ (fun H locs hw => ?_)
        refine lv_goto (tgt := 309) hx hb dX4_finish_138 (by decide) ?_
        cases hm
        exact g_vret C hw dX4_finish_309
      · have hm := it_f hc24 hm
        refine br_by (c := r5 = 25) (fun hc => ?_) (fun hc25 => ?_)
        · have hm := it_t hc hm
          refine lv_tableIn (off := 133) (tgt := 141) hx hb dX4_finish_8 (by rw [hc]; decide) (by rw [hc]; decide) (by rw [hc]; rfl) (by decide) ?_
          refine lv_aload_n hx hb dX4_finish_141 rfl (lv_at hl 0 rfl) ?_
          refine lv_aload_n hx hb dX4_finish_142 rfl (lv_at hl 0 rfl) ?_
          refine g_get C hw gC4_0 dX4_finish_143 ?_
          refine lv_iconst (v := 3) hx hb dX4_finish_146 ci_3 ?_
          refine lv_aload_n hx hb dX4_finish_147 rfl (lv_at hl 0 rfl) ?_
          refine g_get C hw gC4_0 dX4_finish_148 ?_
          refine lv_iload_n hx hb dX4_finish_151 rfl (lv_at hl 2 rfl) ?_
          obtain ⟨r152, iv152, ar152, la152, pA152, pB152, hc152, hm⟩ := obc_some hm
          refine g_calli (As := [.int a2]) (rest := [.int 3, .ref (oc 10), .ref (oc 4)]) C hw (kX10_numberOf hc152) mtX10_numberOf lkX4_137 oC10 hl.1 rfl rfl (Nat.le_of_ble_eq_true rfl) ⟨Nat.le_of_ble_eq_true rfl, Nat.le_of_ble_eq_true rfl⟩ dX4_finish_152 ⟨Nat.zero_le _, Nat.zero_le _⟩ (fun H locs hw => ?_)
          refine lv_aload_n hx hb dX4_finish_155 rfl (lv_at hl 0 rfl) ?_
          refine g_get C hw gC4_0 dX4_finish_156 ?_
          refine lv_aload_n hx hb dX4_finish_159 rfl (lv_at hl 0 rfl) ?_
          refine g_get C hw gC4_12 dX4_finish_160 ?_
          obtain ⟨r163, iv163, ar163, la163, pA163, pB163, hc163, hm⟩ := obc_some hm
          refine g_calli (As := [.int (iv152 412)]) (rest := [.int r152, .int 3, .ref (oc 10), .ref (oc 4)]) C hw (kX10_numberOf hc163) mtX10_numberOf lkX4_137 oC10 hl.1 rfl rfl (Nat.le_of_ble_eq_true rfl) ⟨Nat.le_of_ble_eq_true rfl, Nat.le_of_ble_eq_true rfl⟩ dX4_finish_163 ⟨Nat.zero_le _, Nat.zero_le _⟩ (fun H locs hw => ?_)
          refine lv_icmp_ge (tgt := 173) hx hb dX4_finish_166 (by decide) (fun hc => ?_) (fun hc => ?_)
          · have hm := it_t hc hm
            refine lv_iconst (v := 0) hx hb dX4_finish_173 ci_0 ?_
            obtain ⟨r174, iv174, ar174, la174, pA174, pB174, hc174, hm⟩ := obc_some hm
            refine g_calli (As := [.int 3, .int 0]) (rest := [.ref (oc 4)]) C hw (kX10_add hc174) mtX10_add lkX4_96 oC10 hl.1 rfl rfl (Nat.le_of_ble_eq_true rfl) ⟨Nat.le_of_ble_eq_true rfl, Nat.le_of_ble_eq_true rfl⟩ dX4_finish_174 ⟨Nat.zero_le _, Nat.zero_le _⟩ (fun H locs hw => ?_)
            obtain ⟨r177, iv177, ar177, la177, pA177, pB177, hc177, hm⟩ := obc_some hm
            refine g_callv (As := [.int r174]) (rest := []) C hw (kX4_give hc177) mtX4_give lkX4_89 oC4 hl.1 rfl rfl (Nat.le_of_ble_eq_true rfl) ⟨Nat.le_of_ble_eq_true rfl, Nat.le_of_ble_eq_true rfl⟩ dX4_finish_177 ⟨Nat.zero_le _, Nat.zero_le _⟩ (fun H locs hw => ?_)
            refine lv_goto (tgt := 309) hx hb dX4_finish_180 (by decide) ?_
            cases hm
            exact g_vret C hw dX4_finish_309
          · have hm := it_f hc hm
            refine lv_iconst (v := 1) hx hb dX4_finish_169 ci_1 ?_
            refine lv_goto (tgt := 174) hx hb dX4_finish_170 (by decide) ?_
            obtain ⟨r174, iv174, ar174, la174, pA174, pB174, hc174, hm⟩ := obc_some hm
            refine g_calli (As := [.int 3, .int 1]) (rest := [.ref (oc 4)]) C hw (kX10_add hc174) mtX10_add lkX4_96 oC10 hl.1 rfl rfl (Nat.le_of_ble_eq_true rfl) ⟨Nat.le_of_ble_eq_true rfl, Nat.le_of_ble_eq_true rfl⟩ dX4_finish_174 ⟨Nat.zero_le _, Nat.zero_le _⟩ (fun H locs hw => ?_)
            obtain ⟨r177, iv177, ar177, la177, pA177, pB177, hc177, hm⟩ := obc_some hm
            refine g_callv (As := [.int r174]) (rest := []) C hw (kX4_give hc177) mtX4_give lkX4_89 oC4 hl.1 rfl rfl (Nat.le_of_ble_eq_true rfl) ⟨Nat.le_of_ble_eq_true rfl, Nat.le_of_ble_eq_true rfl⟩ dX4_finish_177 ⟨Nat.zero_le _, Nat.zero_le _⟩ (fun H locs hw => ?_)
            refine lv_goto (tgt := 309) hx hb dX4_finish_180 (by decide) ?_
            cases hm
            exact g_vret C hw dX4_finish_309
        · have hm := it_f hc25 hm
          refine br_by (c := r5 = 26) (fun hc => ?_) (fun hc26 => ?_)
          · have hm := it_t hc hm
            refine lv_tableIn (off := 271) (tgt := 279) hx hb dX4_finish_8 (by rw [hc]; decide) (by rw [hc]; decide) (by rw [hc]; rfl) (by decide) ?_
            refine lv_aload_n hx hb dX4_finish_279 rfl (lv_at hl 0 rfl) ?_
            refine lv_aload_n hx hb dX4_finish_280 rfl (lv_at hl 0 rfl) ?_
            refine lv_iload_n hx hb dX4_finish_281 rfl (lv_at hl 1 rfl) ?_
            refine lv_aload_n hx hb dX4_finish_282 rfl (lv_at hl 0 rfl) ?_
            refine g_get C hw gC4_0 dX4_finish_283 ?_
            refine lv_iload_n hx hb dX4_finish_286 rfl (lv_at hl 2 rfl) ?_
            obtain ⟨r287, iv287, ar287, la287, pA287, pB287, hc287, hm⟩ := obc_some hm
            refine g_calli (As := [.int a2]) (rest := [.int a1, .ref (oc 4), .ref (oc 4)]) C hw (kX10_numberOf hc287) mtX10_numberOf lkX4_137 oC10 hl.1 rfl rfl (Nat.le_of_ble_eq_true rfl) ⟨Nat.le_of_ble_eq_true rfl, Nat.le_of_ble_eq_true rfl⟩ dX4_finish_287 ⟨Nat.zero_le _, Nat.zero_le _⟩ (fun H locs hw => ?_)
            obtain ⟨r290, iv290, ar290, la290, pA290, pB290, hc290, hm⟩ := obc_some hm
            refine g_calli (As := [.int a1, .int r287]) (rest := [.ref (oc 4)]) C hw (kX4_caseFor hc290) mtX4_caseFor lkX4_149 oC4 hl.1 rfl rfl (Nat.le_of_ble_eq_true rfl) ⟨Nat.le_of_ble_eq_true rfl, Nat.le_of_ble_eq_true rfl⟩ dX4_finish_290 ⟨Nat.zero_le _, Nat.zero_le _⟩ (fun H locs hw => ?_)
            refine lv_aload_n hx hb dX4_finish_293 rfl (lv_at hl 0 rfl) ?_
            refine g_get C hw gC4_1 dX4_finish_294 ?_
            refine lv_aload_n hx hb dX4_finish_297 rfl (lv_at hl 0 rfl) ?_
            refine lv_iload_n hx hb dX4_finish_298 rfl (lv_at hl 2 rfl) ?_
            obtain ⟨r299, iv299, ar299, la299, pA299, pB299, hc299, hm⟩ := obc_some hm
            refine g_calli (As := [.int a2]) (rest := [.ref (oc 1), .int r290, .ref (oc 4)]) C hw (kX4_partOfChoice hc299) mtX4_partOfChoice lkX4_152 oC4 hl.1 rfl rfl (Nat.le_of_ble_eq_true rfl) ⟨Nat.le_of_ble_eq_true rfl, Nat.le_of_ble_eq_true rfl⟩ dX4_finish_299 ⟨Nat.zero_le _, Nat.zero_le _⟩ (fun H locs hw => ?_)
            refine lv_iload_n hx hb dX4_finish_302 rfl (lv_at hl 3 rfl) ?_
            obtain ⟨r303, iv303, ar303, la303, pA303, pB303, hc303, hm⟩ := obc_some hm
            refine g_calli (As := [.int r299, .int a3]) (rest := [.int r290, .ref (oc 4)]) C hw (kX1_add hc303) mtX1_add lkX4_112 oC1 hl.1 rfl rfl (Nat.le_of_ble_eq_true rfl) ⟨Nat.le_of_ble_eq_true rfl, Nat.le_of_ble_eq_true rfl⟩ dX4_finish_303 ⟨Nat.zero_le _, Nat.zero_le _⟩ (fun H locs hw => ?_)
            obtain ⟨r306, iv306, ar306, la306, pA306, pB306, hc306, hm⟩ := obc_some hm
            refine g_callv (As := [.int r290, .int r303]) (rest := []) C hw (kX4_want hc306) mtX4_want lkX4_59 oC4 hl.1 rfl rfl (Nat.le_of_ble_eq_true rfl) ⟨Nat.le_of_ble_eq_true rfl, Nat.le_of_ble_eq_true rfl⟩ dX4_finish_306 ⟨Nat.zero_le _, Nat.zero_le _⟩ (fun H locs hw => ?_)
            cases hm
            exact g_vret C hw dX4_finish_309
          · have hm := it_f hc26 hm
            refine br_by (c := r5 = 27) (fun hc => ?_) (fun hc27 => ?_)
            · have hm := it_t hc hm
              refine lv_tableIn (off := 271) (tgt := 279) hx hb dX4_finish_8 (by rw [hc]; decide) (by rw [hc]; decide) (by rw [hc]; rfl) (by decide) ?_
              refine lv_aload_n hx hb dX4_finish_279 rfl (lv_at hl 0 rfl) ?_
              refine lv_aload_n hx hb dX4_finish_280 rfl (lv_at hl 0 rfl) ?_
              refine lv_iload_n hx hb dX4_finish_281 rfl (lv_at hl 1 rfl) ?_
              refine lv_aload_n hx hb dX4_finish_282 rfl (lv_at hl 0 rfl) ?_
              refine g_get C hw gC4_0 dX4_finish_283 ?_
              refine lv_iload_n hx hb dX4_finish_286 rfl (lv_at hl 2 rfl) ?_
              obtain ⟨r287, iv287, ar287, la287, pA287, pB287, hc287, hm⟩ := obc_some hm
              refine g_calli (As := [.int a2]) (rest := [.int a1, .ref (oc 4), .ref (oc 4)]) C hw (kX10_numberOf hc287) mtX10_numberOf lkX4_137 oC10 hl.1 rfl rfl (Nat.le_of_ble_eq_true rfl) ⟨Nat.le_of_ble_eq_true rfl, Nat.le_of_ble_eq_true rfl⟩ dX4_finish_287 ⟨Nat.zero_le _, Nat.zero_le _⟩ (fun H locs hw => ?_)
              obtain ⟨r290, iv290, ar290, la290, pA290, pB290, hc290, hm⟩ := obc_some hm
              refine g_calli (As := [.int a1, .int r287]) (rest := [.ref (oc 4)]) C hw (kX4_caseFor hc290) mtX4_caseFor lkX4_149 oC4 hl.1 rfl rfl (Nat.le_of_ble_eq_true rfl) ⟨Nat.le_of_ble_eq_true rfl, Nat.le_of_ble_eq_true rfl⟩ dX4_finish_290 ⟨Nat.zero_le _, Nat.zero_le _⟩ (fun H locs hw => ?_)
              refine lv_aload_n hx hb dX4_finish_293 rfl (lv_at hl 0 rfl) ?_
              refine g_get C hw gC4_1 dX4_finish_294 ?_
              refine lv_aload_n hx hb dX4_finish_297 rfl (lv_at hl 0 rfl) ?_
              refine lv_iload_n hx hb dX4_finish_298 rfl (lv_at hl 2 rfl) ?_
              obtain ⟨r299, iv299, ar299, la299, pA299, pB299, hc299, hm⟩ := obc_some hm
              refine g_calli (As := [.int a2]) (rest := [.ref (oc 1), .int r290, .ref (oc 4)]) C hw (kX4_partOfChoice hc299) mtX4_partOfChoice lkX4_152 oC4 hl.1 rfl rfl (Nat.le_of_ble_eq_true rfl) ⟨Nat.le_of_ble_eq_true rfl, Nat.le_of_ble_eq_true rfl⟩ dX4_finish_299 ⟨Nat.zero_le _, Nat.zero_le _⟩ (fun H locs hw => ?_)
              refine lv_iload_n hx hb dX4_finish_302 rfl (lv_at hl 3 rfl) ?_
              obtain ⟨r303, iv303, ar303, la303, pA303, pB303, hc303, hm⟩ := obc_some hm
              refine g_calli (As := [.int r299, .int a3]) (rest := [.int r290, .ref (oc 4)]) C hw (kX1_add hc303) mtX1_add lkX4_112 oC1 hl.1 rfl rfl (Nat.le_of_ble_eq_true rfl) ⟨Nat.le_of_ble_eq_true rfl, Nat.le_of_ble_eq_true rfl⟩ dX4_finish_303 ⟨Nat.zero_le _, Nat.zero_le _⟩ (fun H locs hw => ?_)
              obtain ⟨r306, iv306, ar306, la306, pA306, pB306, hc306, hm⟩ := obc_some hm
              refine g_callv (As := [.int r290, .int r303]) (rest := []) C hw (kX4_want hc306) mtX4_want lkX4_59 oC4 hl.1 rfl rfl (Nat.le_of_ble_eq_true rfl) ⟨Nat.le_of_ble_eq_true rfl, Nat.le_of_ble_eq_true rfl⟩ dX4_finish_306 ⟨Nat.zero_le _, Nat.zero_le _⟩ (fun H locs hw => ?_)
              cases hm
              exact g_vret C hw dX4_finish_309
            · have hm := it_f hc27 hm
              refine br_by (c := r5 = 28) (fun hc => ?_) (fun hc28 => ?_)
              · have hm := it_t hc hm
                refine lv_tableIn (off := 175) (tgt := 183) hx hb dX4_finish_8 (by rw [hc]; decide) (by rw [hc]; decide) (by rw [hc]; rfl) (by decide) ?_
                refine lv_aload_n hx hb dX4_finish_183 rfl (lv_at hl 0 rfl) ?_
                refine lv_aload_n hx hb dX4_finish_184 rfl (lv_at hl 0 rfl) ?_
                refine g_get C hw gC4_2 dX4_finish_185 ?_
                refine lv_iload_n hx hb dX4_finish_188 rfl (lv_at hl 1 rfl) ?_
                refine lv_aload_n hx hb dX4_finish_189 rfl (lv_at hl 0 rfl) ?_
                refine g_get C hw gC4_0 dX4_finish_190 ?_
                refine lv_iload_n hx hb dX4_finish_193 rfl (lv_at hl 2 rfl) ?_
                obtain ⟨r194, iv194, ar194, la194, pA194, pB194, hc194, hm⟩ := obc_some hm
                refine g_calli (As := [.int a2]) (rest := [.int a1, .ref pa, .ref (oc 4)]) C hw (kX10_numberOf hc194) mtX10_numberOf lkX4_137 oC10 hl.1 rfl rfl (Nat.le_of_ble_eq_true rfl) ⟨Nat.le_of_ble_eq_true rfl, Nat.le_of_ble_eq_true rfl⟩ dX4_finish_194 ⟨Nat.zero_le _, Nat.zero_le _⟩ (fun H locs hw => ?_)
                refine lv_iconst (v := 1) hx hb dX4_finish_197 ci_1 ?_
                refine lv_icmp_ne (tgt := 205) hx hb dX4_finish_198 (by decide) (fun hc => ?_) (fun hc => ?_)
                · have hm := it_f hc hm
                  refine lv_iconst (v := 2) hx hb dX4_finish_205 ci_2 ?_
                  obtain ⟨r206, iv206, ar206, la206, pA206, pB206, hc206, hm⟩ := obc_some hm
                  refine g_calli (As := [.int a1, .int 2]) (rest := [.ref (oc 4)]) C hw (kX6_kidA hc206) mtX6_kid lkX4_109 oC6A hl.1 rfl rfl (Nat.le_of_ble_eq_true rfl) ⟨Nat.le_of_ble_eq_true rfl, Nat.le_of_ble_eq_true rfl⟩ dX4_finish_206 ⟨Nat.zero_le _, Nat.zero_le _⟩ (fun H locs hw => ?_)
                  refine lv_iload_n hx hb dX4_finish_209 rfl (lv_at hl 3 rfl) ?_
                  obtain ⟨r210, iv210, ar210, la210, pA210, pB210, hc210, hm⟩ := obc_some hm
                  refine g_callv (As := [.int r206, .int a3]) (rest := []) C hw (kX4_want hc210) mtX4_want lkX4_59 oC4 hl.1 rfl rfl (Nat.le_of_ble_eq_true rfl) ⟨Nat.le_of_ble_eq_true rfl, Nat.le_of_ble_eq_true rfl⟩ dX4_finish_210 ⟨Nat.zero_le _, Nat.zero_le _⟩ (fun H locs hw => ?_)
                  refine lv_goto (tgt := 309) hx hb dX4_finish_213 (by decide) ?_
                  cases hm
                  exact g_vret C hw dX4_finish_309
                · have hm := it_t hc hm
                  refine lv_iconst (v := 1) hx hb dX4_finish_201 ci_1 ?_
                  refine lv_goto (tgt := 206) hx hb dX4_finish_202 (by decide) ?_
                  obtain ⟨r206, iv206, ar206, la206, pA206, pB206, hc206, hm⟩ := obc_some hm
                  refine g_calli (As := [.int a1, .int 1]) (rest := [.ref (oc 4)]) C hw (kX6_kidA hc206) mtX6_kid lkX4_109 oC6A hl.1 rfl rfl (Nat.le_of_ble_eq_true rfl) ⟨Nat.le_of_ble_eq_true rfl, Nat.le_of_ble_eq_true rfl⟩ dX4_finish_206 ⟨Nat.zero_le _, Nat.zero_le _⟩ (fun H locs hw => ?_)
                  refine lv_iload_n hx hb dX4_finish_209 rfl (lv_at hl 3 rfl) ?_
                  obtain ⟨r210, iv210, ar210, la210, pA210, pB210, hc210, hm⟩ := obc_some hm
                  refine g_callv (As := [.int r206, .int a3]) (rest := []) C hw (kX4_want hc210) mtX4_want lkX4_59 oC4 hl.1 rfl rfl (Nat.le_of_ble_eq_true rfl) ⟨Nat.le_of_ble_eq_true rfl, Nat.le_of_ble_eq_true rfl⟩ dX4_finish_210 ⟨Nat.zero_le _, Nat.zero_le _⟩ (fun H locs hw => ?_)
                  refine lv_goto (tgt := 309) hx hb dX4_finish_213 (by decide) ?_
                  cases hm
                  exact g_vret C hw dX4_finish_309
              · have hm := it_f hc28 hm
                refine br_by (c := r5 = 29) (fun hc => ?_) (fun hc29 => ?_)
                · have hm := it_t hc hm
                  refine lv_tableIn (off := 208) (tgt := 216) hx hb dX4_finish_8 (by rw [hc]; decide) (by rw [hc]; decide) (by rw [hc]; rfl) (by decide) ?_
                  refine lv_aload_n hx hb dX4_finish_216 rfl (lv_at hl 0 rfl) ?_
                  refine lv_aload_n hx hb dX4_finish_217 rfl (lv_at hl 0 rfl) ?_
                  refine lv_iload_n hx hb dX4_finish_218 rfl (lv_at hl 1 rfl) ?_
                  refine lv_aload_n hx hb dX4_finish_219 rfl (lv_at hl 0 rfl) ?_
                  refine g_get C hw gC4_7 dX4_finish_220 ?_
                  obtain ⟨r223, iv223, ar223, la223, pA223, pB223, hc223, hm⟩ := obc_some hm
                  refine g_calli (As := [.int a1, .int (iv5 407)]) (rest := [.ref (oc 4)]) C hw (kX4_gather hc223) mtX4_gather lkX4_140 oC4 hl.1 rfl rfl (Nat.le_of_ble_eq_true rfl) ⟨Nat.le_of_ble_eq_true rfl, Nat.le_of_ble_eq_true rfl⟩ dX4_finish_223 ⟨Nat.zero_le _, Nat.zero_le _⟩ (fun H locs hw => ?_)
                  obtain ⟨r226, iv226, ar226, la226, pA226, pB226, hc226, hm⟩ := obc_some hm
                  refine g_callv (As := [.int r223]) (rest := []) C hw (kX4_give hc226) mtX4_give lkX4_89 oC4 hl.1 rfl rfl (Nat.le_of_ble_eq_true rfl) ⟨Nat.le_of_ble_eq_true rfl, Nat.le_of_ble_eq_true rfl⟩ dX4_finish_226 ⟨Nat.zero_le _, Nat.zero_le _⟩ (fun H locs hw => ?_)
                  refine lv_goto (tgt := 309) hx hb dX4_finish_229 (by decide) ?_
                  cases hm
                  exact g_vret C hw dX4_finish_309
                · have hm := it_f hc29 hm
                  refine br_by (c := r5 = 30) (fun hc => ?_) (fun hc30 => ?_)
                  · have hm := it_t hc hm
                    refine lv_tableIn (off := 224) (tgt := 232) hx hb dX4_finish_8 (by rw [hc]; decide) (by rw [hc]; decide) (by rw [hc]; rfl) (by decide) ?_
                    refine lv_aload_n hx hb dX4_finish_232 rfl (lv_at hl 0 rfl) ?_
                    refine lv_aload_n hx hb dX4_finish_233 rfl (lv_at hl 0 rfl) ?_
                    refine g_get C hw gC4_0 dX4_finish_234 ?_
                    refine lv_iload_n hx hb dX4_finish_237 rfl (lv_at hl 2 rfl) ?_
                    refine lv_aload_n hx hb dX4_finish_238 rfl (lv_at hl 0 rfl) ?_
                    refine g_get C hw gC4_2 dX4_finish_239 ?_
                    refine lv_iload_n hx hb dX4_finish_242 rfl (lv_at hl 1 rfl) ?_
                    refine lv_iconst (v := 1) hx hb dX4_finish_243 ci_1 ?_
                    refine lv_iadd hx hb dX4_finish_244 ?_
                    obtain ⟨r245, iv245, ar245, la245, pA245, pB245, hc245, hm⟩ := obc_some hm
                    refine g_calli (As := [.int (a1 + 1)]) (rest := [.int a2, .ref (oc 10), .ref (oc 4)]) C hw (kX6_wordA hc245) mtX6_word lkX4_79 oC6A hl.1 rfl rfl (Nat.le_of_ble_eq_true rfl) ⟨Nat.le_of_ble_eq_true rfl, Nat.le_of_ble_eq_true rfl⟩ dX4_finish_245 ⟨Nat.zero_le _, Nat.zero_le _⟩ (fun H locs hw => ?_)
                    obtain ⟨r248, iv248, ar248, la248, pA248, pB248, hc248, hm⟩ := obc_some hm
                    refine g_calli (As := [.int a2, .int r245]) (rest := [.ref (oc 4)]) C hw (kX10_partOf hc248) mtX10_partOf lkX4_143 oC10 hl.1 rfl rfl (Nat.le_of_ble_eq_true rfl) ⟨Nat.le_of_ble_eq_true rfl, Nat.le_of_ble_eq_true rfl⟩ dX4_finish_248 ⟨Nat.zero_le _, Nat.zero_le _⟩ (fun H locs hw => ?_)
                    obtain ⟨r251, iv251, ar251, la251, pA251, pB251, hc251, hm⟩ := obc_some hm
                    refine g_callv (As := [.int r248]) (rest := []) C hw (kX4_give hc251) mtX4_give lkX4_89 oC4 hl.1 rfl rfl (Nat.le_of_ble_eq_true rfl) ⟨Nat.le_of_ble_eq_true rfl, Nat.le_of_ble_eq_true rfl⟩ dX4_finish_251 ⟨Nat.zero_le _, Nat.zero_le _⟩ (fun H locs hw => ?_)
                    refine lv_goto (tgt := 309) hx hb dX4_finish_254 (by decide) ?_
                    cases hm
                    exact g_vret C hw dX4_finish_309
                  · have hm := it_f hc30 hm
                    refine br_by (c := r5 = 31) (fun hc => ?_) (fun hc31 => ?_)
                    · have hm := it_t hc hm
                      refine lv_tableIn (off := 249) (tgt := 257) hx hb dX4_finish_8 (by rw [hc]; decide) (by rw [hc]; decide) (by rw [hc]; rfl) (by decide) ?_
                      refine lv_aload_n hx hb dX4_finish_257 rfl (lv_at hl 0 rfl) ?_
                      refine lv_aload_n hx hb dX4_finish_258 rfl (lv_at hl 0 rfl) ?_
                      refine lv_aload_n hx hb dX4_finish_259 rfl (lv_at hl 0 rfl) ?_
                      refine g_get C hw gC4_2 dX4_finish_260 ?_
                      refine lv_iload_n hx hb dX4_finish_263 rfl (lv_at hl 1 rfl) ?_
                      refine lv_iconst (v := 2) hx hb dX4_finish_264 ci_2 ?_
                      refine lv_iadd hx hb dX4_finish_265 ?_
                      obtain ⟨r266, iv266, ar266, la266, pA266, pB266, hc266, hm⟩ := obc_some hm
                      refine g_calli (As := [.int (a1 + 2)]) (rest := [.ref (oc 4), .ref (oc 4)]) C hw (kX6_wordA hc266) mtX6_word lkX4_79 oC6A hl.1 rfl rfl (Nat.le_of_ble_eq_true rfl) ⟨Nat.le_of_ble_eq_true rfl, Nat.le_of_ble_eq_true rfl⟩ dX4_finish_266 ⟨Nat.zero_le _, Nat.zero_le _⟩ (fun H locs hw => ?_)
                      refine lv_iload_n hx hb dX4_finish_269 rfl (lv_at hl 2 rfl) ?_
                      obtain ⟨r270, iv270, ar270, la270, pA270, pB270, hc270, hm⟩ := obc_some hm
                      refine g_calli (As := [.int r266, .int a2]) (rest := [.ref (oc 4)]) C hw (kX4_tag hc270) mtX4_tag lkX4_146 oC4 hl.1 rfl rfl (Nat.le_of_ble_eq_true rfl) ⟨Nat.le_of_ble_eq_true rfl, Nat.le_of_ble_eq_true rfl⟩ dX4_finish_270 ⟨Nat.zero_le _, Nat.zero_le _⟩ (fun H locs hw => ?_)
                      obtain ⟨r273, iv273, ar273, la273, pA273, pB273, hc273, hm⟩ := obc_some hm
                      refine g_callv (As := [.int r270]) (rest := []) C hw (kX4_give hc273) mtX4_give lkX4_89 oC4 hl.1 rfl rfl (Nat.le_of_ble_eq_true rfl) ⟨Nat.le_of_ble_eq_true rfl, Nat.le_of_ble_eq_true rfl⟩ dX4_finish_273 ⟨Nat.zero_le _, Nat.zero_le _⟩ (fun H locs hw => ?_)
                      refine lv_goto (tgt := 309) hx hb dX4_finish_276 (by decide) ?_
                      cases hm
                      exact g_vret C hw dX4_finish_309
                    · have hm := it_f hc31 hm
                      have ho : (r5).toInt < 22 ∨ 31 < (r5).toInt := by
                        have ehc22 := sw_ne (n := 22) hc22 (by decide)
                        have ehc23 := sw_ne (n := 23) hc23 (by decide)
                        have ehc24 := sw_ne (n := 24) hc24 (by decide)
                        have ehc25 := sw_ne (n := 25) hc25 (by decide)
                        have ehc26 := sw_ne (n := 26) hc26 (by decide)
                        have ehc27 := sw_ne (n := 27) hc27 (by decide)
                        have ehc28 := sw_ne (n := 28) hc28 (by decide)
                        have ehc29 := sw_ne (n := 29) hc29 (by decide)
                        have ehc30 := sw_ne (n := 30) hc30 (by decide)
                        have ehc31 := sw_ne (n := 31) hc31 (by decide)
                        omega
                      refine lv_tableOut (tgt := 279) hx hb dX4_finish_8 ho (by decide) ?_
                      refine lv_aload_n hx hb dX4_finish_279 rfl (lv_at hl 0 rfl) ?_
                      refine lv_aload_n hx hb dX4_finish_280 rfl (lv_at hl 0 rfl) ?_
                      refine lv_iload_n hx hb dX4_finish_281 rfl (lv_at hl 1 rfl) ?_
                      refine lv_aload_n hx hb dX4_finish_282 rfl (lv_at hl 0 rfl) ?_
                      refine g_get C hw gC4_0 dX4_finish_283 ?_
                      refine lv_iload_n hx hb dX4_finish_286 rfl (lv_at hl 2 rfl) ?_
                      obtain ⟨r287, iv287, ar287, la287, pA287, pB287, hc287, hm⟩ := obc_some hm
                      refine g_calli (As := [.int a2]) (rest := [.int a1, .ref (oc 4), .ref (oc 4)]) C hw (kX10_numberOf hc287) mtX10_numberOf lkX4_137 oC10 hl.1 rfl rfl (Nat.le_of_ble_eq_true rfl) ⟨Nat.le_of_ble_eq_true rfl, Nat.le_of_ble_eq_true rfl⟩ dX4_finish_287 ⟨Nat.zero_le _, Nat.zero_le _⟩ (fun H locs hw => ?_)
                      obtain ⟨r290, iv290, ar290, la290, pA290, pB290, hc290, hm⟩ := obc_some hm
                      refine g_calli (As := [.int a1, .int r287]) (rest := [.ref (oc 4)]) C hw (kX4_caseFor hc290) mtX4_caseFor lkX4_149 oC4 hl.1 rfl rfl (Nat.le_of_ble_eq_true rfl) ⟨Nat.le_of_ble_eq_true rfl, Nat.le_of_ble_eq_true rfl⟩ dX4_finish_290 ⟨Nat.zero_le _, Nat.zero_le _⟩ (fun H locs hw => ?_)
                      refine lv_aload_n hx hb dX4_finish_293 rfl (lv_at hl 0 rfl) ?_
                      refine g_get C hw gC4_1 dX4_finish_294 ?_
                      refine lv_aload_n hx hb dX4_finish_297 rfl (lv_at hl 0 rfl) ?_
                      refine lv_iload_n hx hb dX4_finish_298 rfl (lv_at hl 2 rfl) ?_
                      obtain ⟨r299, iv299, ar299, la299, pA299, pB299, hc299, hm⟩ := obc_some hm
                      refine g_calli (As := [.int a2]) (rest := [.ref (oc 1), .int r290, .ref (oc 4)]) C hw (kX4_partOfChoice hc299) mtX4_partOfChoice lkX4_152 oC4 hl.1 rfl rfl (Nat.le_of_ble_eq_true rfl) ⟨Nat.le_of_ble_eq_true rfl, Nat.le_of_ble_eq_true rfl⟩ dX4_finish_299 ⟨Nat.zero_le _, Nat.zero_le _⟩ (fun H locs hw => ?_)
                      refine lv_iload_n hx hb dX4_finish_302 rfl (lv_at hl 3 rfl) ?_
                      obtain ⟨r303, iv303, ar303, la303, pA303, pB303, hc303, hm⟩ := obc_some hm
                      refine g_calli (As := [.int r299, .int a3]) (rest := [.int r290, .ref (oc 4)]) C hw (kX1_add hc303) mtX1_add lkX4_112 oC1 hl.1 rfl rfl (Nat.le_of_ble_eq_true rfl) ⟨Nat.le_of_ble_eq_true rfl, Nat.le_of_ble_eq_true rfl⟩ dX4_finish_303 ⟨Nat.zero_le _, Nat.zero_le _⟩ (fun H locs hw => ?_)
                      obtain ⟨r306, iv306, ar306, la306, pA306, pB306, hc306, hm⟩ := obc_some hm
                      refine g_callv (As := [.int r290, .int r303]) (rest := []) C hw (kX4_want hc306) mtX4_want lkX4_59 oC4 hl.1 rfl rfl (Nat.le_of_ble_eq_true rfl) ⟨Nat.le_of_ble_eq_true rfl, Nat.le_of_ble_eq_true rfl⟩ dX4_finish_306 ⟨Nat.zero_le _, Nat.zero_le _⟩ (fun H locs hw => ?_)
                      cases hm
                      exact g_vret C hw dX4_finish_309
end
