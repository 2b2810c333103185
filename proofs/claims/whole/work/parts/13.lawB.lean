set_option maxRecDepth 100000 in
set_option maxHeartbeats 8000000 in
/-- the law's loop, over any relation in which the two answer alike -/
theorem law_loop {p : Program} {e : Env} {s : State} {m : MethodId} {below : List Frame} {meth : Method} {c : Code} {l : Launch} {b L : Nat} {xs : Nat → Int32} {D : va_G} {cI cJ : ClassId} {A : Nat → Prop} {Rl : mI → mA → mL → mA → mA → mI → mA → Prop} (hL : L ≤ 2048) (hS : simAll Rl) (C : mCx p s m #[Value.ref b] meth c RL cL_law 4 ret D cI cJ A) (hX : va_X b L xs s s.heap) (hbl : b < s.heap.size) (hbA : ¬ A b) (hAs : ∀ q, A q → s.heap.size ≤ q) (n : Nat) : ∀ (i : Nat) (x : Int32), L + 5 < i + n → i ≤ L + 4 → x = nI i → ∀ (oc ac : Nat → Nat) (pa pb : Nat) (aa ab : Nat → Nat) (tp cp mp : Nat) (iv : mI) (ar : mA) (la : mL) (pA pB : mA) (iw : mI) (aw : mA) (o : Nat) (ad : Nat → Nat), Rl iv ar la pA pB iw aw → ∀ (H : Heap) (locs : List Loc) (ls : Array Slot), inW D A s (wC cI cJ oc ac pa pb aa ab pa pb tp cp mp iv ar la pA pB ++ wM cI o ad iw aw) H locs → lv_has ls 4 [(0, .ref b), (1, .ref (oc 11)), (2, .ref o), (3, .int x)] → W p l e room_1 s m #[Value.ref b] below meth c H locs 111 1346603 (lw_Z below #[Value.ref b] s) (F0 m 18 ls []) := by
  induction n with
  | zero => intro i x h1 h2; omega
  | succ n ih =>
    intro i x h1 h2 ex oc ac pa pb aa ab tp cp mp iv ar la pA pB iw aw o ad hR H locs ls hw hl
    have hx := C.1.1
    have hb := C.1.2.1
    obtain ⟨s_clear, s_feed, s_type, s_term, s_place, s_node, s_below, s_depth, s_way, s_unite, s_meet, s_run, s_value, s_count⟩ := id hS
    refine lv_iload_n hx hb dL_law_18 rfl (lv_at hl 3 rfl) ?_
    refine lv_aload_n hx hb dL_law_19 rfl (lv_at hl 0 rfl) ?_
    refine va_slen hx hb hX hbl hbA hw.2.2 dL_law_20 ?_
    refine lv_iconst (v := 4) hx hb dL_law_21 ci_4 ?_
    refine lv_isub hx hb dL_law_22 ?_
    refine lv_icmp_gt (tgt := 472) hx hb dL_law_23 (by decide) (fun hc => ?_) (fun hc => ?_)
    · refine lv_iconst (v := 1) hx hb dL_law_472 ci_1 ?_
      refine va_forget (fun q hq => hAs _ (hw.2.2.2.2 q hq)) ?_
      refine W.widen (k := 600000) (n := 7302250) (by decide) (by decide) ?_
      exact lw_ret hx hb C.2.1 C.2.2.1 dL_law_473
    · have hi : i + 4 ≤ L := lw_more hL h2 (by rw [← ex]; exact hc)
      have hin0 : vp_in x L := by rw [ex]; exact vp_in_nI (by omega) (by omega)
      have hin1 : vp_in (x + 1) L := by rw [ex, nI_1]; exact vp_in_nI (by omega) (by omega)
      have hin2 : vp_in (x + 2) L := by rw [ex, show nI i + 2 = nI (i + 2) from nI_add i 2]; exact vp_in_nI (by omega) (by omega)
      have hin3 : vp_in (x + 3) L := by rw [ex, show nI i + 3 = nI (i + 3) from nI_add i 3]; exact vp_in_nI (by omega) (by omega)
      have hgo : ∀ (tp cp mp : Nat) (pa pb : Nat) (aa ab : Nat → Nat) (ivz : mI) (arz : mA) (laz : mL) (pAz pBz : mA) (iwz : mI) (awz : mA), Rl ivz arz laz pAz pBz iwz awz → ∀ (H : Heap) (locs : List Loc), inW D A s (wC cI cJ oc ac pa pb aa ab pa pb tp cp mp ivz arz laz pAz pBz ++ wM cI o ad iwz awz) H locs → W p l e room_1 s m #[Value.ref b] below meth c H locs 111 1346603 (lw_Z below #[Value.ref b] s) (F0 m 466 ls []) := by
        intro tp cp mp pa pb aa ab ivz arz laz pAz pBz iwz awz hR H locs hw
        refine lv_iinc (v := x + 4) (lv' := [(3, .int (x + 4)), (0, .ref b), (1, .ref (oc 11)), (2, .ref o)]) hx hb dL_law_466 hl (k := 3) rfl (ii_ ci_4) (by decide) rfl (fun ls hl => ?_)
        refine lv_goto (tgt := 18) hx hb dL_law_469 (by decide) ?_
        exact ih (i + 4) (x + 4) (by omega) (by omega) (by rw [ex]; exact nI_add i 4) oc ac pa pb aa ab tp cp mp ivz arz laz pAz pBz iwz awz o ad hR H locs ls hw (lv_sub hl [1, 2, 3, 0] rfl)
      refine lv_aload_n hx hb dL_law_26 rfl (lv_at hl 0 rfl) ?_
      refine lv_iload_n hx hb dL_law_27 rfl (lv_at hl 3 rfl) ?_
      refine va_sld hx hb hX hbl hbA hw.2.2 hin0 dL_law_28 ?_
      refine lv_bipush (v := 15) hx hb dL_law_29 cb_15 ?_
      refine lv_iand hx hb dL_law_31 ?_
      refine br_by (c := (xs x.toNatClampNeg &&& 15) = 0) (fun hc => ?_) (fun hc0 => ?_)
      · refine lv_tableIn (off := 72) (tgt := 104) hx hb dL_law_32 (by rw [hc]; decide) (by rw [hc]; decide) (by rw [hc]; rfl) (by decide) ?_
        obtain ⟨rz, ivz, arz, laz, pAz, pBz, iwz, awz, hmC, hmM, hRz⟩ := s_clear  iv ar la pA pB iw aw hR
        refine lv_aload_n hx hb dL_law_104 rfl (lv_at hl 1 rfl) ?_
        refine l_calli (As := []) (rest := []) C hw (kX11_clear hmC) mtX11_clear lkL_13 oC11 hl.1 rfl rfl (Nat.le_of_ble_eq_true rfl) ⟨Nat.le_of_ble_eq_true rfl, Nat.le_of_ble_eq_true rfl⟩ dL_law_105 ⟨Nat.le_of_ble_eq_true rfl, Nat.le_of_ble_eq_true rfl⟩ (fun H locs hw => ?_)
        refine lv_aload_n hx hb dL_law_108 rfl (lv_at hl 2 rfl) ?_
        refine l_calli (As := []) (rest := [.int rz]) C hw (kX12_clear hmM) mtX12_clear lkL_17 oM hl.1 rfl rfl (Nat.le_of_ble_eq_true rfl) ⟨Nat.le_of_ble_eq_true rfl, Nat.le_of_ble_eq_true rfl⟩ dL_law_109 ⟨Nat.le_of_ble_eq_true rfl, Nat.le_of_ble_eq_true rfl⟩ (fun H locs hw => ?_)
        refine lv_icmp_eq (tgt := 466) hx hb dL_law_112 (by decide) (fun _ => ?_) (fun hne => absurd rfl hne)
        exact hgo tp cp mp pa pb aa ab ivz arz laz pAz pBz iwz awz hRz H locs hw
      · have _ := hc0
        refine br_by (c := (xs x.toNatClampNeg &&& 15) = 1) (fun hc => ?_) (fun hc1 => ?_)
        · refine lv_tableIn (off := 85) (tgt := 117) hx hb dL_law_32 (by rw [hc]; decide) (by rw [hc]; decide) (by rw [hc]; rfl) (by decide) ?_
          obtain ⟨rz, ivz, arz, laz, pAz, pBz, iwz, awz, hmC, hmM, hRz⟩ := s_feed (xs (x + 1).toNatClampNeg) iv ar la pA pB iw aw hR
          refine lv_aload_n hx hb dL_law_117 rfl (lv_at hl 1 rfl) ?_
          refine lv_aload_n hx hb dL_law_118 rfl (lv_at hl 0 rfl) ?_
          refine lv_iload_n hx hb dL_law_119 rfl (lv_at hl 3 rfl) ?_
          refine lv_iconst (v := 1) hx hb dL_law_120 ci_1 ?_
          refine lv_iadd hx hb dL_law_121 ?_
          refine va_sld hx hb hX hbl hbA hw.2.2 hin1 dL_law_122 ?_
          refine l_calli (As := [.int (xs (x + 1).toNatClampNeg)]) (rest := []) C hw (kX11_feed hmC) mtX11_feed lkL_18 oC11 hl.1 rfl rfl (Nat.le_of_ble_eq_true rfl) ⟨Nat.le_of_ble_eq_true rfl, Nat.le_of_ble_eq_true rfl⟩ dL_law_123 ⟨Nat.le_of_ble_eq_true rfl, Nat.le_of_ble_eq_true rfl⟩ (fun H locs hw => ?_)
          refine lv_aload_n hx hb dL_law_126 rfl (lv_at hl 2 rfl) ?_
          refine lv_aload_n hx hb dL_law_127 rfl (lv_at hl 0 rfl) ?_
          refine lv_iload_n hx hb dL_law_128 rfl (lv_at hl 3 rfl) ?_
          refine lv_iconst (v := 1) hx hb dL_law_129 ci_1 ?_
          refine lv_iadd hx hb dL_law_130 ?_
          refine va_sld hx hb hX hbl hbA hw.2.2 hin1 dL_law_131 ?_
          refine l_calli (As := [.int (xs (x + 1).toNatClampNeg)]) (rest := [.int rz]) C hw (kX12_feed hmM) mtX12_feed lkL_22 oM hl.1 rfl rfl (Nat.le_of_ble_eq_true rfl) ⟨Nat.le_of_ble_eq_true rfl, Nat.le_of_ble_eq_true rfl⟩ dL_law_132 ⟨Nat.le_of_ble_eq_true rfl, Nat.le_of_ble_eq_true rfl⟩ (fun H locs hw => ?_)
          refine lv_icmp_eq (tgt := 466) hx hb dL_law_135 (by decide) (fun _ => ?_) (fun hne => absurd rfl hne)
          exact hgo tp cp mp pa pb aa ab ivz arz laz pAz pBz iwz awz hRz H locs hw
        · have _ := hc1
          refine br_by (c := (xs x.toNatClampNeg &&& 15) = 2) (fun hc => ?_) (fun hc2 => ?_)
          · refine lv_tableIn (off := 108) (tgt := 140) hx hb dL_law_32 (by rw [hc]; decide) (by rw [hc]; decide) (by rw [hc]; rfl) (by decide) ?_
            obtain ⟨rz, ivz, arz, laz, pAz, pBz, iwz, awz, hmC, hmM, hRz⟩ := s_type  iv ar la pA pB iw aw hR
            refine lv_aload_n hx hb dL_law_140 rfl (lv_at hl 1 rfl) ?_
            refine l_calli (As := []) (rest := []) C hw (kX11_type hmC) mtX11_type lkL_23 oC11 hl.1 rfl rfl (Nat.le_of_ble_eq_true rfl) ⟨Nat.le_of_ble_eq_true rfl, Nat.le_of_ble_eq_true rfl⟩ dL_law_141 ⟨Nat.le_of_ble_eq_true rfl, Nat.le_of_ble_eq_true rfl⟩ (fun H locs hw => ?_)
            refine lv_aload_n hx hb dL_law_144 rfl (lv_at hl 2 rfl) ?_
            refine l_calli (As := []) (rest := [.int rz]) C hw (kX12_type hmM) mtX12_type lkL_26 oM hl.1 rfl rfl (Nat.le_of_ble_eq_true rfl) ⟨Nat.le_of_ble_eq_true rfl, Nat.le_of_ble_eq_true rfl⟩ dL_law_145 ⟨Nat.le_of_ble_eq_true rfl, Nat.le_of_ble_eq_true rfl⟩ (fun H locs hw => ?_)
            refine lv_icmp_eq (tgt := 466) hx hb dL_law_148 (by decide) (fun _ => ?_) (fun hne => absurd rfl hne)
            exact hgo tp cp mp pa pb aa ab ivz arz laz pAz pBz iwz awz hRz H locs hw
          · have _ := hc2
            refine br_by (c := (xs x.toNatClampNeg &&& 15) = 3) (fun hc => ?_) (fun hc3 => ?_)
            · refine lv_tableIn (off := 121) (tgt := 153) hx hb dL_law_32 (by rw [hc]; decide) (by rw [hc]; decide) (by rw [hc]; rfl) (by decide) ?_
              obtain ⟨rz, ivz, arz, laz, pAz, pBz, iwz, awz, qz, hmC, hmM, hq, hR0, hR1, hR2, hR3⟩ := s_term  iv ar la pA pB iw aw hR
              refine lv_aload_n hx hb dL_law_153 rfl (lv_at hl 1 rfl) ?_
              refine l_calli (As := []) (rest := []) C hw (kX11_term hmC) mtX11_term lkL_27 oC11 hl.1 rfl rfl (Nat.le_of_ble_eq_true rfl) ⟨Nat.le_of_ble_eq_true rfl, Nat.le_of_ble_eq_true rfl⟩ dL_law_154 ⟨Nat.le_of_ble_eq_true rfl, Nat.le_of_ble_eq_true rfl⟩ (fun H locs hw => ?_)
              refine lv_aload_n hx hb dL_law_157 rfl (lv_at hl 2 rfl) ?_
              refine l_calli (As := []) (rest := [.int rz]) C hw (kX12_term hmM) mtX12_term lkL_30 oM hl.1 rfl rfl (Nat.le_of_ble_eq_true rfl) ⟨Nat.le_of_ble_eq_true rfl, Nat.le_of_ble_eq_true rfl⟩ dL_law_158 ⟨Nat.le_of_ble_eq_true rfl, Nat.le_of_ble_eq_true rfl⟩ (fun H locs hw => ?_)
              refine lv_icmp_eq (tgt := 466) hx hb dL_law_161 (by decide) (fun _ => ?_) (fun hne => absurd rfl hne)
              have hq4 : qz = 0 ∨ qz = 1 ∨ qz = 2 ∨ qz = 3 := by omega
              rcases hq4 with rfl | rfl | rfl | rfl
              · exact hgo pb cp mp pa pb aa ab ivz arz laz pAz pBz iwz awz (hR0 rfl) H locs hw
              · exact hgo pb cp mp pb pa ab aa ivz arz laz pBz pAz iwz awz (hR1 rfl) H locs (inW_perm hw [0, 1, 2, 3, 4, 5, 6, 7, 8, 9, 10, 12, 11, 13, 14, 15, 16, 17, 18, 19, 20, 21, 22, 23, 24, 25, 26, 27, 28, 29, 30, 31, 32, 33, 34, 35, 36, 37, 38, 39, 40, 41, 42, 43, 44, 50, 51, 52, 53, 54, 45, 46, 47, 48, 49, 55, 56, 57, 58, 59, 60, 61, 62, 63, 64, 65, 66, 67, 68, 69, 70, 71, 72, 73, 74, 75, 76, 77, 78, 79, 80, 81, 82, 83, 84, 85, 86, 87, 88, 89, 90, 91, 92, 93, 94, 95, 96, 97, 98, 99, 100, 101, 102, 103, 104, 105, 106, 107, 108, 109, 110] rfl rfl)
              · exact hgo pb pb mp pa pb aa ab ivz arz laz pAz pBz iwz awz (hR2 rfl) H locs hw
              · exact hgo pb pb mp pb pa ab aa ivz arz laz pBz pAz iwz awz (hR3 rfl) H locs (inW_perm hw [0, 1, 2, 3, 4, 5, 6, 7, 8, 9, 10, 12, 11, 13, 14, 15, 16, 17, 18, 19, 20, 21, 22, 23, 24, 25, 26, 27, 28, 29, 30, 31, 32, 33, 34, 35, 36, 37, 38, 39, 40, 41, 42, 43, 44, 50, 51, 52, 53, 54, 45, 46, 47, 48, 49, 55, 56, 57, 58, 59, 60, 61, 62, 63, 64, 65, 66, 67, 68, 69, 70, 71, 72, 73, 74, 75, 76, 77, 78, 79, 80, 81, 82, 83, 84, 85, 86, 87, 88, 89, 90, 91, 92, 93, 94, 95, 96, 97, 98, 99, 100, 101, 102, 103, 104, 105, 106, 107, 108, 109, 110] rfl rfl)
            · have _ := hc3
              refine br_by (c := (xs x.toNatClampNeg &&& 15) = 4) (fun hc => ?_) (fun hc4 => ?_)
              · refine lv_tableIn (off := 134) (tgt := 166) hx hb dL_law_32 (by rw [hc]; decide) (by rw [hc]; decide) (by rw [hc]; rfl) (by decide) ?_
                obtain ⟨rz, ivz, arz, laz, pAz, pBz, iwz, awz, hmC, hmM, hRz⟩ := s_place  iv ar la pA pB iw aw hR
                refine lv_aload_n hx hb dL_law_166 rfl (lv_at hl 1 rfl) ?_
                refine l_calli (As := []) (rest := []) C hw (kX11_place hmC) mtX11_place lkL_31 oC11 hl.1 rfl rfl (Nat.le_of_ble_eq_true rfl) ⟨Nat.le_of_ble_eq_true rfl, Nat.le_of_ble_eq_true rfl⟩ dL_law_167 ⟨Nat.le_of_ble_eq_true rfl, Nat.le_of_ble_eq_true rfl⟩ (fun H locs hw => ?_)
                refine lv_aload_n hx hb dL_law_170 rfl (lv_at hl 2 rfl) ?_
                refine l_calli (As := []) (rest := [.int rz]) C hw (kX12_place hmM) mtX12_place lkL_34 oM hl.1 rfl rfl (Nat.le_of_ble_eq_true rfl) ⟨Nat.le_of_ble_eq_true rfl, Nat.le_of_ble_eq_true rfl⟩ dL_law_171 ⟨Nat.le_of_ble_eq_true rfl, Nat.le_of_ble_eq_true rfl⟩ (fun H locs hw => ?_)
                refine lv_icmp_eq (tgt := 466) hx hb dL_law_174 (by decide) (fun _ => ?_) (fun hne => absurd rfl hne)
                exact hgo tp cp mp pa pb aa ab ivz arz laz pAz pBz iwz awz hRz H locs hw
              · have _ := hc4
                refine br_by (c := (xs x.toNatClampNeg &&& 15) = 5) (fun hc => ?_) (fun hc5 => ?_)
                · refine lv_tableIn (off := 147) (tgt := 179) hx hb dL_law_32 (by rw [hc]; decide) (by rw [hc]; decide) (by rw [hc]; rfl) (by decide) ?_
                  obtain ⟨rz, ivz, arz, laz, pAz, pBz, iwz, awz, hmC, hmM, hRz⟩ := s_node (xs (x + 1).toNatClampNeg) (xs (x + 2).toNatClampNeg) iv ar la pA pB iw aw hR
                  refine lv_aload_n hx hb dL_law_179 rfl (lv_at hl 1 rfl) ?_
                  refine lv_aload_n hx hb dL_law_180 rfl (lv_at hl 0 rfl) ?_
                  refine lv_iload_n hx hb dL_law_181 rfl (lv_at hl 3 rfl) ?_
                  refine lv_iconst (v := 1) hx hb dL_law_182 ci_1 ?_
                  refine lv_iadd hx hb dL_law_183 ?_
                  refine va_sld hx hb hX hbl hbA hw.2.2 hin1 dL_law_184 ?_
                  refine lv_aload_n hx hb dL_law_185 rfl (lv_at hl 0 rfl) ?_
                  refine lv_iload_n hx hb dL_law_186 rfl (lv_at hl 3 rfl) ?_
                  refine lv_iconst (v := 2) hx hb dL_law_187 ci_2 ?_
                  refine lv_iadd hx hb dL_law_188 ?_
                  refine va_sld hx hb hX hbl hbA hw.2.2 hin2 dL_law_189 ?_
                  refine l_calli (As := [.int (xs (x + 1).toNatClampNeg), .int (xs (x + 2).toNatClampNeg)]) (rest := []) C hw (kX11_node hmC) mtX11_node lkL_35 oC11 hl.1 rfl rfl (Nat.le_of_ble_eq_true rfl) ⟨Nat.le_of_ble_eq_true rfl, Nat.le_of_ble_eq_true rfl⟩ dL_law_190 ⟨Nat.le_of_ble_eq_true rfl, Nat.le_of_ble_eq_true rfl⟩ (fun H locs hw => ?_)
                  refine lv_aload_n hx hb dL_law_193 rfl (lv_at hl 2 rfl) ?_
                  refine lv_aload_n hx hb dL_law_194 rfl (lv_at hl 0 rfl) ?_
                  refine lv_iload_n hx hb dL_law_195 rfl (lv_at hl 3 rfl) ?_
                  refine lv_iconst (v := 1) hx hb dL_law_196 ci_1 ?_
                  refine lv_iadd hx hb dL_law_197 ?_
                  refine va_sld hx hb hX hbl hbA hw.2.2 hin1 dL_law_198 ?_
                  refine lv_aload_n hx hb dL_law_199 rfl (lv_at hl 0 rfl) ?_
                  refine lv_iload_n hx hb dL_law_200 rfl (lv_at hl 3 rfl) ?_
                  refine lv_iconst (v := 2) hx hb dL_law_201 ci_2 ?_
                  refine lv_iadd hx hb dL_law_202 ?_
                  refine va_sld hx hb hX hbl hbA hw.2.2 hin2 dL_law_203 ?_
                  refine l_calli (As := [.int (xs (x + 1).toNatClampNeg), .int (xs (x + 2).toNatClampNeg)]) (rest := [.int rz]) C hw (kX12_node hmM) mtX12_node lkL_39 oM hl.1 rfl rfl (Nat.le_of_ble_eq_true rfl) ⟨Nat.le_of_ble_eq_true rfl, Nat.le_of_ble_eq_true rfl⟩ dL_law_204 ⟨Nat.le_of_ble_eq_true rfl, Nat.le_of_ble_eq_true rfl⟩ (fun H locs hw => ?_)
                  refine lv_icmp_eq (tgt := 466) hx hb dL_law_207 (by decide) (fun _ => ?_) (fun hne => absurd rfl hne)
                  exact hgo tp cp mp pa pb aa ab ivz arz laz pAz pBz iwz awz hRz H locs hw
                · have _ := hc5
                  refine br_by (c := (xs x.toNatClampNeg &&& 15) = 6) (fun hc => ?_) (fun hc6 => ?_)
                  · refine lv_tableIn (off := 180) (tgt := 212) hx hb dL_law_32 (by rw [hc]; decide) (by rw [hc]; decide) (by rw [hc]; rfl) (by decide) ?_
                    obtain ⟨rz, ivz, arz, laz, pAz, pBz, iwz, awz, hmC, hmM, hRz⟩ := s_below (xs (x + 1).toNatClampNeg) (xs (x + 2).toNatClampNeg) iv ar la pA pB iw aw hR
                    refine lv_aload_n hx hb dL_law_212 rfl (lv_at hl 1 rfl) ?_
                    refine lv_aload_n hx hb dL_law_213 rfl (lv_at hl 0 rfl) ?_
                    refine lv_iload_n hx hb dL_law_214 rfl (lv_at hl 3 rfl) ?_
                    refine lv_iconst (v := 1) hx hb dL_law_215 ci_1 ?_
                    refine lv_iadd hx hb dL_law_216 ?_
                    refine va_sld hx hb hX hbl hbA hw.2.2 hin1 dL_law_217 ?_
                    refine lv_aload_n hx hb dL_law_218 rfl (lv_at hl 0 rfl) ?_
                    refine lv_iload_n hx hb dL_law_219 rfl (lv_at hl 3 rfl) ?_
                    refine lv_iconst (v := 2) hx hb dL_law_220 ci_2 ?_
                    refine lv_iadd hx hb dL_law_221 ?_
                    refine va_sld hx hb hX hbl hbA hw.2.2 hin2 dL_law_222 ?_
                    refine l_calli (As := [.int (xs (x + 1).toNatClampNeg), .int (xs (x + 2).toNatClampNeg)]) (rest := []) C hw (kX11_below hmC) mtX11_below lkL_40 oC11 hl.1 rfl rfl (Nat.le_of_ble_eq_true rfl) ⟨Nat.le_of_ble_eq_true rfl, Nat.le_of_ble_eq_true rfl⟩ dL_law_223 ⟨Nat.le_of_ble_eq_true rfl, Nat.le_of_ble_eq_true rfl⟩ (fun H locs hw => ?_)
                    refine lv_aload_n hx hb dL_law_226 rfl (lv_at hl 2 rfl) ?_
                    refine lv_aload_n hx hb dL_law_227 rfl (lv_at hl 0 rfl) ?_
                    refine lv_iload_n hx hb dL_law_228 rfl (lv_at hl 3 rfl) ?_
                    refine lv_iconst (v := 1) hx hb dL_law_229 ci_1 ?_
                    refine lv_iadd hx hb dL_law_230 ?_
                    refine va_sld hx hb hX hbl hbA hw.2.2 hin1 dL_law_231 ?_
                    refine lv_aload_n hx hb dL_law_232 rfl (lv_at hl 0 rfl) ?_
                    refine lv_iload_n hx hb dL_law_233 rfl (lv_at hl 3 rfl) ?_
                    refine lv_iconst (v := 2) hx hb dL_law_234 ci_2 ?_
                    refine lv_iadd hx hb dL_law_235 ?_
                    refine va_sld hx hb hX hbl hbA hw.2.2 hin2 dL_law_236 ?_
                    refine l_calli (As := [.int (xs (x + 1).toNatClampNeg), .int (xs (x + 2).toNatClampNeg)]) (rest := [.int rz]) C hw (kX12_below hmM) mtX12_below lkL_43 oM hl.1 rfl rfl (Nat.le_of_ble_eq_true rfl) ⟨Nat.le_of_ble_eq_true rfl, Nat.le_of_ble_eq_true rfl⟩ dL_law_237 ⟨Nat.le_of_ble_eq_true rfl, Nat.le_of_ble_eq_true rfl⟩ (fun H locs hw => ?_)
                    refine lv_icmp_eq (tgt := 466) hx hb dL_law_240 (by decide) (fun _ => ?_) (fun hne => absurd rfl hne)
                    exact hgo tp cp mp pa pb aa ab ivz arz laz pAz pBz iwz awz hRz H locs hw
                  · have _ := hc6
                    refine br_by (c := (xs x.toNatClampNeg &&& 15) = 7) (fun hc => ?_) (fun hc7 => ?_)
                    · refine lv_tableIn (off := 213) (tgt := 245) hx hb dL_law_32 (by rw [hc]; decide) (by rw [hc]; decide) (by rw [hc]; rfl) (by decide) ?_
                      obtain ⟨rz, ivz, arz, laz, pAz, pBz, iwz, awz, hmC, hmM, hRz⟩ := s_depth (xs (x + 1).toNatClampNeg) (xs (x + 2).toNatClampNeg) iv ar la pA pB iw aw hR
                      refine lv_aload_n hx hb dL_law_245 rfl (lv_at hl 1 rfl) ?_
                      refine lv_aload_n hx hb dL_law_246 rfl (lv_at hl 0 rfl) ?_
                      refine lv_iload_n hx hb dL_law_247 rfl (lv_at hl 3 rfl) ?_
                      refine lv_iconst (v := 1) hx hb dL_law_248 ci_1 ?_
                      refine lv_iadd hx hb dL_law_249 ?_
                      refine va_sld hx hb hX hbl hbA hw.2.2 hin1 dL_law_250 ?_
                      refine lv_aload_n hx hb dL_law_251 rfl (lv_at hl 0 rfl) ?_
                      refine lv_iload_n hx hb dL_law_252 rfl (lv_at hl 3 rfl) ?_
                      refine lv_iconst (v := 2) hx hb dL_law_253 ci_2 ?_
                      refine lv_iadd hx hb dL_law_254 ?_
                      refine va_sld hx hb hX hbl hbA hw.2.2 hin2 dL_law_255 ?_
                      refine l_calli (As := [.int (xs (x + 1).toNatClampNeg), .int (xs (x + 2).toNatClampNeg)]) (rest := []) C hw (kX11_depth hmC) mtX11_depth lkL_44 oC11 hl.1 rfl rfl (Nat.le_of_ble_eq_true rfl) ⟨Nat.le_of_ble_eq_true rfl, Nat.le_of_ble_eq_true rfl⟩ dL_law_256 ⟨Nat.le_of_ble_eq_true rfl, Nat.le_of_ble_eq_true rfl⟩ (fun H locs hw => ?_)
                      refine lv_aload_n hx hb dL_law_259 rfl (lv_at hl 2 rfl) ?_
                      refine lv_aload_n hx hb dL_law_260 rfl (lv_at hl 0 rfl) ?_
                      refine lv_iload_n hx hb dL_law_261 rfl (lv_at hl 3 rfl) ?_
                      refine lv_iconst (v := 1) hx hb dL_law_262 ci_1 ?_
                      refine lv_iadd hx hb dL_law_263 ?_
                      refine va_sld hx hb hX hbl hbA hw.2.2 hin1 dL_law_264 ?_
                      refine lv_aload_n hx hb dL_law_265 rfl (lv_at hl 0 rfl) ?_
                      refine lv_iload_n hx hb dL_law_266 rfl (lv_at hl 3 rfl) ?_
                      refine lv_iconst (v := 2) hx hb dL_law_267 ci_2 ?_
                      refine lv_iadd hx hb dL_law_268 ?_
                      refine va_sld hx hb hX hbl hbA hw.2.2 hin2 dL_law_269 ?_
                      refine l_calli (As := [.int (xs (x + 1).toNatClampNeg), .int (xs (x + 2).toNatClampNeg)]) (rest := [.int rz]) C hw (kX12_depth hmM) mtX12_depth lkL_47 oM hl.1 rfl rfl (Nat.le_of_ble_eq_true rfl) ⟨Nat.le_of_ble_eq_true rfl, Nat.le_of_ble_eq_true rfl⟩ dL_law_270 ⟨Nat.le_of_ble_eq_true rfl, Nat.le_of_ble_eq_true rfl⟩ (fun H locs hw => ?_)
                      refine lv_icmp_eq (tgt := 466) hx hb dL_law_273 (by decide) (fun _ => ?_) (fun hne => absurd rfl hne)
                      exact hgo tp cp mp pa pb aa ab ivz arz laz pAz pBz iwz awz hRz H locs hw
                    · have _ := hc7
                      refine br_by (c := (xs x.toNatClampNeg &&& 15) = 8) (fun hc => ?_) (fun hc8 => ?_)
                      · refine lv_tableIn (off := 246) (tgt := 278) hx hb dL_law_32 (by rw [hc]; decide) (by rw [hc]; decide) (by rw [hc]; rfl) (by decide) ?_
                        obtain ⟨rz, ivz, arz, laz, pAz, pBz, iwz, awz, hmC, hmM, hRz⟩ := s_way (xs (x + 1).toNatClampNeg) (xs (x + 2).toNatClampNeg) (xs (x + 3).toNatClampNeg) iv ar la pA pB iw aw hR
                        refine lv_aload_n hx hb dL_law_278 rfl (lv_at hl 1 rfl) ?_
                        refine lv_aload_n hx hb dL_law_279 rfl (lv_at hl 0 rfl) ?_
                        refine lv_iload_n hx hb dL_law_280 rfl (lv_at hl 3 rfl) ?_
                        refine lv_iconst (v := 1) hx hb dL_law_281 ci_1 ?_
                        refine lv_iadd hx hb dL_law_282 ?_
                        refine va_sld hx hb hX hbl hbA hw.2.2 hin1 dL_law_283 ?_
                        refine lv_aload_n hx hb dL_law_284 rfl (lv_at hl 0 rfl) ?_
                        refine lv_iload_n hx hb dL_law_285 rfl (lv_at hl 3 rfl) ?_
                        refine lv_iconst (v := 2) hx hb dL_law_286 ci_2 ?_
                        refine lv_iadd hx hb dL_law_287 ?_
                        refine va_sld hx hb hX hbl hbA hw.2.2 hin2 dL_law_288 ?_
                        refine lv_aload_n hx hb dL_law_289 rfl (lv_at hl 0 rfl) ?_
                        refine lv_iload_n hx hb dL_law_290 rfl (lv_at hl 3 rfl) ?_
                        refine lv_iconst (v := 3) hx hb dL_law_291 ci_3 ?_
                        refine lv_iadd hx hb dL_law_292 ?_
                        refine va_sld hx hb hX hbl hbA hw.2.2 hin3 dL_law_293 ?_
                        refine l_calli (As := [.int (xs (x + 1).toNatClampNeg), .int (xs (x + 2).toNatClampNeg), .int (xs (x + 3).toNatClampNeg)]) (rest := []) C hw (kX11_way hmC) mtX11_way lkL_48 oC11 hl.1 rfl rfl (Nat.le_of_ble_eq_true rfl) ⟨Nat.le_of_ble_eq_true rfl, Nat.le_of_ble_eq_true rfl⟩ dL_law_294 ⟨Nat.le_of_ble_eq_true rfl, Nat.le_of_ble_eq_true rfl⟩ (fun H locs hw => ?_)
                        refine lv_aload_n hx hb dL_law_297 rfl (lv_at hl 2 rfl) ?_
                        refine lv_aload_n hx hb dL_law_298 rfl (lv_at hl 0 rfl) ?_
                        refine lv_iload_n hx hb dL_law_299 rfl (lv_at hl 3 rfl) ?_
                        refine lv_iconst (v := 1) hx hb dL_law_300 ci_1 ?_
                        refine lv_iadd hx hb dL_law_301 ?_
                        refine va_sld hx hb hX hbl hbA hw.2.2 hin1 dL_law_302 ?_
                        refine lv_aload_n hx hb dL_law_303 rfl (lv_at hl 0 rfl) ?_
                        refine lv_iload_n hx hb dL_law_304 rfl (lv_at hl 3 rfl) ?_
                        refine lv_iconst (v := 2) hx hb dL_law_305 ci_2 ?_
                        refine lv_iadd hx hb dL_law_306 ?_
                        refine va_sld hx hb hX hbl hbA hw.2.2 hin2 dL_law_307 ?_
                        refine lv_aload_n hx hb dL_law_308 rfl (lv_at hl 0 rfl) ?_
                        refine lv_iload_n hx hb dL_law_309 rfl (lv_at hl 3 rfl) ?_
                        refine lv_iconst (v := 3) hx hb dL_law_310 ci_3 ?_
                        refine lv_iadd hx hb dL_law_311 ?_
                        refine va_sld hx hb hX hbl hbA hw.2.2 hin3 dL_law_312 ?_
                        refine l_calli (As := [.int (xs (x + 1).toNatClampNeg), .int (xs (x + 2).toNatClampNeg), .int (xs (x + 3).toNatClampNeg)]) (rest := [.int rz]) C hw (kX12_way hmM) mtX12_way lkL_52 oM hl.1 rfl rfl (Nat.le_of_ble_eq_true rfl) ⟨Nat.le_of_ble_eq_true rfl, Nat.le_of_ble_eq_true rfl⟩ dL_law_313 ⟨Nat.le_of_ble_eq_true rfl, Nat.le_of_ble_eq_true rfl⟩ (fun H locs hw => ?_)
                        refine lv_icmp_eq (tgt := 466) hx hb dL_law_316 (by decide) (fun _ => ?_) (fun hne => absurd rfl hne)
                        exact hgo tp cp mp pa pb aa ab ivz arz laz pAz pBz iwz awz hRz H locs hw
                      · have _ := hc8
                        refine br_by (c := (xs x.toNatClampNeg &&& 15) = 9) (fun hc => ?_) (fun hc9 => ?_)
                        · refine lv_tableIn (off := 289) (tgt := 321) hx hb dL_law_32 (by rw [hc]; decide) (by rw [hc]; decide) (by rw [hc]; rfl) (by decide) ?_
                          obtain ⟨rz, ivz, arz, laz, pAz, pBz, iwz, awz, hmC, hmM, hRz⟩ := s_unite (xs (x + 1).toNatClampNeg) (xs (x + 2).toNatClampNeg) iv ar la pA pB iw aw hR
                          refine lv_aload_n hx hb dL_law_321 rfl (lv_at hl 1 rfl) ?_
                          refine lv_aload_n hx hb dL_law_322 rfl (lv_at hl 0 rfl) ?_
                          refine lv_iload_n hx hb dL_law_323 rfl (lv_at hl 3 rfl) ?_
                          refine lv_iconst (v := 1) hx hb dL_law_324 ci_1 ?_
                          refine lv_iadd hx hb dL_law_325 ?_
                          refine va_sld hx hb hX hbl hbA hw.2.2 hin1 dL_law_326 ?_
                          refine lv_aload_n hx hb dL_law_327 rfl (lv_at hl 0 rfl) ?_
                          refine lv_iload_n hx hb dL_law_328 rfl (lv_at hl 3 rfl) ?_
                          refine lv_iconst (v := 2) hx hb dL_law_329 ci_2 ?_
                          refine lv_iadd hx hb dL_law_330 ?_
                          refine va_sld hx hb hX hbl hbA hw.2.2 hin2 dL_law_331 ?_
                          refine l_calli (As := [.int (xs (x + 1).toNatClampNeg), .int (xs (x + 2).toNatClampNeg)]) (rest := []) C hw (kX11_unite hmC) mtX11_unite lkL_53 oC11 hl.1 rfl rfl (Nat.le_of_ble_eq_true rfl) ⟨Nat.le_of_ble_eq_true rfl, Nat.le_of_ble_eq_true rfl⟩ dL_law_332 ⟨Nat.le_of_ble_eq_true rfl, Nat.le_of_ble_eq_true rfl⟩ (fun H locs hw => ?_)
                          refine lv_aload_n hx hb dL_law_335 rfl (lv_at hl 2 rfl) ?_
                          refine lv_aload_n hx hb dL_law_336 rfl (lv_at hl 0 rfl) ?_
                          refine lv_iload_n hx hb dL_law_337 rfl (lv_at hl 3 rfl) ?_
                          refine lv_iconst (v := 1) hx hb dL_law_338 ci_1 ?_
                          refine lv_iadd hx hb dL_law_339 ?_
                          refine va_sld hx hb hX hbl hbA hw.2.2 hin1 dL_law_340 ?_
                          refine lv_aload_n hx hb dL_law_341 rfl (lv_at hl 0 rfl) ?_
                          refine lv_iload_n hx hb dL_law_342 rfl (lv_at hl 3 rfl) ?_
                          refine lv_iconst (v := 2) hx hb dL_law_343 ci_2 ?_
                          refine lv_iadd hx hb dL_law_344 ?_
                          refine va_sld hx hb hX hbl hbA hw.2.2 hin2 dL_law_345 ?_
                          refine l_calli (As := [.int (xs (x + 1).toNatClampNeg), .int (xs (x + 2).toNatClampNeg)]) (rest := [.int rz]) C hw (kX12_unite hmM) mtX12_unite lkL_56 oM hl.1 rfl rfl (Nat.le_of_ble_eq_true rfl) ⟨Nat.le_of_ble_eq_true rfl, Nat.le_of_ble_eq_true rfl⟩ dL_law_346 ⟨Nat.le_of_ble_eq_true rfl, Nat.le_of_ble_eq_true rfl⟩ (fun H locs hw => ?_)
                          refine lv_icmp_eq (tgt := 466) hx hb dL_law_349 (by decide) (fun _ => ?_) (fun hne => absurd rfl hne)
                          exact hgo tp cp mp pa pb aa ab ivz arz laz pAz pBz iwz awz hRz H locs hw
                        · have _ := hc9
                          refine br_by (c := (xs x.toNatClampNeg &&& 15) = 10) (fun hc => ?_) (fun hc10 => ?_)
                          · refine lv_tableIn (off := 322) (tgt := 354) hx hb dL_law_32 (by rw [hc]; decide) (by rw [hc]; decide) (by rw [hc]; rfl) (by decide) ?_
                            obtain ⟨rz, ivz, arz, laz, pAz, pBz, iwz, awz, hmC, hmM, hRz⟩ := s_meet (xs (x + 1).toNatClampNeg) (xs (x + 2).toNatClampNeg) iv ar la pA pB iw aw hR
                            refine lv_aload_n hx hb dL_law_354 rfl (lv_at hl 1 rfl) ?_
                            refine lv_aload_n hx hb dL_law_355 rfl (lv_at hl 0 rfl) ?_
                            refine lv_iload_n hx hb dL_law_356 rfl (lv_at hl 3 rfl) ?_
                            refine lv_iconst (v := 1) hx hb dL_law_357 ci_1 ?_
                            refine lv_iadd hx hb dL_law_358 ?_
                            refine va_sld hx hb hX hbl hbA hw.2.2 hin1 dL_law_359 ?_
                            refine lv_aload_n hx hb dL_law_360 rfl (lv_at hl 0 rfl) ?_
                            refine lv_iload_n hx hb dL_law_361 rfl (lv_at hl 3 rfl) ?_
                            refine lv_iconst (v := 2) hx hb dL_law_362 ci_2 ?_
                            refine lv_iadd hx hb dL_law_363 ?_
                            refine va_sld hx hb hX hbl hbA hw.2.2 hin2 dL_law_364 ?_
                            refine l_calli (As := [.int (xs (x + 1).toNatClampNeg), .int (xs (x + 2).toNatClampNeg)]) (rest := []) C hw (kX11_meet hmC) mtX11_meet lkL_57 oC11 hl.1 rfl rfl (Nat.le_of_ble_eq_true rfl) ⟨Nat.le_of_ble_eq_true rfl, Nat.le_of_ble_eq_true rfl⟩ dL_law_365 ⟨Nat.le_of_ble_eq_true rfl, Nat.le_of_ble_eq_true rfl⟩ (fun H locs hw => ?_)
                            refine lv_aload_n hx hb dL_law_368 rfl (lv_at hl 2 rfl) ?_
                            refine lv_aload_n hx hb dL_law_369 rfl (lv_at hl 0 rfl) ?_
                            refine lv_iload_n hx hb dL_law_370 rfl (lv_at hl 3 rfl) ?_
                            refine lv_iconst (v := 1) hx hb dL_law_371 ci_1 ?_
                            refine lv_iadd hx hb dL_law_372 ?_
                            refine va_sld hx hb hX hbl hbA hw.2.2 hin1 dL_law_373 ?_
                            refine lv_aload_n hx hb dL_law_374 rfl (lv_at hl 0 rfl) ?_
                            refine lv_iload_n hx hb dL_law_375 rfl (lv_at hl 3 rfl) ?_
                            refine lv_iconst (v := 2) hx hb dL_law_376 ci_2 ?_
                            refine lv_iadd hx hb dL_law_377 ?_
                            refine va_sld hx hb hX hbl hbA hw.2.2 hin2 dL_law_378 ?_
                            refine l_calli (As := [.int (xs (x + 1).toNatClampNeg), .int (xs (x + 2).toNatClampNeg)]) (rest := [.int rz]) C hw (kX12_meet hmM) mtX12_meet lkL_60 oM hl.1 rfl rfl (Nat.le_of_ble_eq_true rfl) ⟨Nat.le_of_ble_eq_true rfl, Nat.le_of_ble_eq_true rfl⟩ dL_law_379 ⟨Nat.le_of_ble_eq_true rfl, Nat.le_of_ble_eq_true rfl⟩ (fun H locs hw => ?_)
                            refine lv_icmp_eq (tgt := 466) hx hb dL_law_382 (by decide) (fun _ => ?_) (fun hne => absurd rfl hne)
                            exact hgo tp cp mp pa pb aa ab ivz arz laz pAz pBz iwz awz hRz H locs hw
                          · have _ := hc10
                            refine br_by (c := (xs x.toNatClampNeg &&& 15) = 11) (fun hc => ?_) (fun hc11 => ?_)
                            · refine lv_tableIn (off := 355) (tgt := 387) hx hb dL_law_32 (by rw [hc]; decide) (by rw [hc]; decide) (by rw [hc]; rfl) (by decide) ?_
                              obtain ⟨rz, ivz, arz, laz, pAz, pBz, iwz, awz, qz, hmC, hmM, hq, hR0, hR1⟩ := s_run (xs (x + 1).toNatClampNeg) iv ar la pA pB iw aw hR
                              refine lv_aload_n hx hb dL_law_387 rfl (lv_at hl 1 rfl) ?_
                              refine lv_aload_n hx hb dL_law_388 rfl (lv_at hl 0 rfl) ?_
                              refine lv_iload_n hx hb dL_law_389 rfl (lv_at hl 3 rfl) ?_
                              refine lv_iconst (v := 1) hx hb dL_law_390 ci_1 ?_
                              refine lv_iadd hx hb dL_law_391 ?_
                              refine va_sld hx hb hX hbl hbA hw.2.2 hin1 dL_law_392 ?_
                              refine l_calli (As := [.int (xs (x + 1).toNatClampNeg)]) (rest := []) C hw (kX11_run hmC) mtX11_run lkL_61 oC11 hl.1 rfl rfl (Nat.le_of_ble_eq_true rfl) ⟨Nat.le_of_ble_eq_true rfl, Nat.le_of_ble_eq_true rfl⟩ dL_law_393 ⟨Nat.le_of_ble_eq_true rfl, Nat.le_of_ble_eq_true rfl⟩ (fun H locs hw => ?_)
                              refine lv_aload_n hx hb dL_law_396 rfl (lv_at hl 2 rfl) ?_
                              refine lv_aload_n hx hb dL_law_397 rfl (lv_at hl 0 rfl) ?_
                              refine lv_iload_n hx hb dL_law_398 rfl (lv_at hl 3 rfl) ?_
                              refine lv_iconst (v := 1) hx hb dL_law_399 ci_1 ?_
                              refine lv_iadd hx hb dL_law_400 ?_
                              refine va_sld hx hb hX hbl hbA hw.2.2 hin1 dL_law_401 ?_
                              refine l_calli (As := [.int (xs (x + 1).toNatClampNeg)]) (rest := [.int rz]) C hw (kX12_run hmM) mtX12_run lkL_64 oM hl.1 rfl rfl (Nat.le_of_ble_eq_true rfl) ⟨Nat.le_of_ble_eq_true rfl, Nat.le_of_ble_eq_true rfl⟩ dL_law_402 ⟨Nat.le_of_ble_eq_true rfl, Nat.le_of_ble_eq_true rfl⟩ (fun H locs hw => ?_)
                              refine lv_icmp_eq (tgt := 466) hx hb dL_law_405 (by decide) (fun _ => ?_) (fun hne => absurd rfl hne)
                              have hq4 : qz = 0 ∨ qz = 1 := by omega
                              rcases hq4 with rfl | rfl
                              · exact hgo tp cp mp pa pb aa ab ivz arz laz pAz pBz iwz awz (hR0 rfl) H locs hw
                              · exact hgo tp cp pa pa pb aa ab ivz arz laz pAz pBz iwz awz (hR1 rfl) H locs hw
                            · have _ := hc11
                              refine br_by (c := (xs x.toNatClampNeg &&& 15) = 12) (fun hc => ?_) (fun hc12 => ?_)
                              · refine lv_tableIn (off := 378) (tgt := 410) hx hb dL_law_32 (by rw [hc]; decide) (by rw [hc]; decide) (by rw [hc]; rfl) (by decide) ?_
                                obtain ⟨rz, ivz, arz, laz, pAz, pBz, iwz, awz, hmC, hmM, hRz⟩ := s_value (xs (x + 1).toNatClampNeg) (xs (x + 2).toNatClampNeg) iv ar la pA pB iw aw hR
                                refine lv_aload_n hx hb dL_law_410 rfl (lv_at hl 1 rfl) ?_
                                refine lv_aload_n hx hb dL_law_411 rfl (lv_at hl 0 rfl) ?_
                                refine lv_iload_n hx hb dL_law_412 rfl (lv_at hl 3 rfl) ?_
                                refine lv_iconst (v := 1) hx hb dL_law_413 ci_1 ?_
                                refine lv_iadd hx hb dL_law_414 ?_
                                refine va_sld hx hb hX hbl hbA hw.2.2 hin1 dL_law_415 ?_
                                refine lv_aload_n hx hb dL_law_416 rfl (lv_at hl 0 rfl) ?_
                                refine lv_iload_n hx hb dL_law_417 rfl (lv_at hl 3 rfl) ?_
                                refine lv_iconst (v := 2) hx hb dL_law_418 ci_2 ?_
                                refine lv_iadd hx hb dL_law_419 ?_
                                refine va_sld hx hb hX hbl hbA hw.2.2 hin2 dL_law_420 ?_
                                refine l_calli (As := [.int (xs (x + 1).toNatClampNeg), .int (xs (x + 2).toNatClampNeg)]) (rest := []) C hw (kX11_value hmC) mtX11_value lkL_65 oC11 hl.1 rfl rfl (Nat.le_of_ble_eq_true rfl) ⟨Nat.le_of_ble_eq_true rfl, Nat.le_of_ble_eq_true rfl⟩ dL_law_421 ⟨Nat.le_of_ble_eq_true rfl, Nat.le_of_ble_eq_true rfl⟩ (fun H locs hw => ?_)
                                refine lv_aload_n hx hb dL_law_424 rfl (lv_at hl 2 rfl) ?_
                                refine lv_aload_n hx hb dL_law_425 rfl (lv_at hl 0 rfl) ?_
                                refine lv_iload_n hx hb dL_law_426 rfl (lv_at hl 3 rfl) ?_
                                refine lv_iconst (v := 1) hx hb dL_law_427 ci_1 ?_
                                refine lv_iadd hx hb dL_law_428 ?_
                                refine va_sld hx hb hX hbl hbA hw.2.2 hin1 dL_law_429 ?_
                                refine lv_aload_n hx hb dL_law_430 rfl (lv_at hl 0 rfl) ?_
                                refine lv_iload_n hx hb dL_law_431 rfl (lv_at hl 3 rfl) ?_
                                refine lv_iconst (v := 2) hx hb dL_law_432 ci_2 ?_
                                refine lv_iadd hx hb dL_law_433 ?_
                                refine va_sld hx hb hX hbl hbA hw.2.2 hin2 dL_law_434 ?_
                                refine l_calli (As := [.int (xs (x + 1).toNatClampNeg), .int (xs (x + 2).toNatClampNeg)]) (rest := [.int rz]) C hw (kX12_value hmM) mtX12_value lkL_68 oM hl.1 rfl rfl (Nat.le_of_ble_eq_true rfl) ⟨Nat.le_of_ble_eq_true rfl, Nat.le_of_ble_eq_true rfl⟩ dL_law_435 ⟨Nat.le_of_ble_eq_true rfl, Nat.le_of_ble_eq_true rfl⟩ (fun H locs hw => ?_)
                                refine lv_icmp_eq (tgt := 466) hx hb dL_law_438 (by decide) (fun _ => ?_) (fun hne => absurd rfl hne)
                                exact hgo tp cp mp pa pb aa ab ivz arz laz pAz pBz iwz awz hRz H locs hw
                              · have _ := hc12
                                refine br_by (c := (xs x.toNatClampNeg &&& 15) = 13) (fun hc => ?_) (fun hc13 => ?_)
                                · refine lv_tableIn (off := 411) (tgt := 443) hx hb dL_law_32 (by rw [hc]; decide) (by rw [hc]; decide) (by rw [hc]; rfl) (by decide) ?_
                                  obtain ⟨rz, ivz, arz, laz, pAz, pBz, iwz, awz, hmC, hmM, hRz⟩ := s_count (xs (x + 1).toNatClampNeg) iv ar la pA pB iw aw hR
                                  refine lv_aload_n hx hb dL_law_443 rfl (lv_at hl 1 rfl) ?_
                                  refine lv_aload_n hx hb dL_law_444 rfl (lv_at hl 0 rfl) ?_
                                  refine lv_iload_n hx hb dL_law_445 rfl (lv_at hl 3 rfl) ?_
                                  refine lv_iconst (v := 1) hx hb dL_law_446 ci_1 ?_
                                  refine lv_iadd hx hb dL_law_447 ?_
                                  refine va_sld hx hb hX hbl hbA hw.2.2 hin1 dL_law_448 ?_
                                  refine l_calli (As := [.int (xs (x + 1).toNatClampNeg)]) (rest := []) C hw (kX11_count hmC) mtX11_count lkL_69 oC11 hl.1 rfl rfl (Nat.le_of_ble_eq_true rfl) ⟨Nat.le_of_ble_eq_true rfl, Nat.le_of_ble_eq_true rfl⟩ dL_law_449 ⟨Nat.le_of_ble_eq_true rfl, Nat.le_of_ble_eq_true rfl⟩ (fun H locs hw => ?_)
                                  refine lv_aload_n hx hb dL_law_452 rfl (lv_at hl 2 rfl) ?_
                                  refine lv_aload_n hx hb dL_law_453 rfl (lv_at hl 0 rfl) ?_
                                  refine lv_iload_n hx hb dL_law_454 rfl (lv_at hl 3 rfl) ?_
                                  refine lv_iconst (v := 1) hx hb dL_law_455 ci_1 ?_
                                  refine lv_iadd hx hb dL_law_456 ?_
                                  refine va_sld hx hb hX hbl hbA hw.2.2 hin1 dL_law_457 ?_
                                  refine l_calli (As := [.int (xs (x + 1).toNatClampNeg)]) (rest := [.int rz]) C hw (kX12_count hmM) mtX12_count lkL_72 oM hl.1 rfl rfl (Nat.le_of_ble_eq_true rfl) ⟨Nat.le_of_ble_eq_true rfl, Nat.le_of_ble_eq_true rfl⟩ dL_law_458 ⟨Nat.le_of_ble_eq_true rfl, Nat.le_of_ble_eq_true rfl⟩ (fun H locs hw => ?_)
                                  refine lv_icmp_eq (tgt := 466) hx hb dL_law_461 (by decide) (fun _ => ?_) (fun hne => absurd rfl hne)
                                  exact hgo tp cp mp pa pb aa ab ivz arz laz pAz pBz iwz awz hRz H locs hw
                                · have _ := hc13
                                  have ho : (xs x.toNatClampNeg &&& 15).toInt < 0 ∨ 13 < (xs x.toNatClampNeg &&& 15).toInt := by
                                    have e0 := sw_ne (n := 0) hc0 (by decide)
                                    have e1 := sw_ne (n := 1) hc1 (by decide)
                                    have e2 := sw_ne (n := 2) hc2 (by decide)
                                    have e3 := sw_ne (n := 3) hc3 (by decide)
                                    have e4 := sw_ne (n := 4) hc4 (by decide)
                                    have e5 := sw_ne (n := 5) hc5 (by decide)
                                    have e6 := sw_ne (n := 6) hc6 (by decide)
                                    have e7 := sw_ne (n := 7) hc7 (by decide)
                                    have e8 := sw_ne (n := 8) hc8 (by decide)
                                    have e9 := sw_ne (n := 9) hc9 (by decide)
                                    have e10 := sw_ne (n := 10) hc10 (by decide)
                                    have e11 := sw_ne (n := 11) hc11 (by decide)
                                    have e12 := sw_ne (n := 12) hc12 (by decide)
                                    have e13 := sw_ne (n := 13) hc13 (by decide)
                                    omega
                                  refine lv_tableOut (tgt := 466) hx hb dL_law_32 ho (by decide) ?_
                                  exact hgo tp cp mp pa pb aa ab iv ar la pA pB iw aw hR H locs hw
