theorem tof20 {a1 : Int32} {iv : mI} {ar : mA} {la : mL} {pA pB : mA} (hw : mX6_wordB a1 iv ar la pA pB = some (nI 20, iv, ar, la, pA, pB)) : mX2_typeOf a1 iv ar la pA pB = obc (mX6_homeB a1 iv ar la pA pB) (fun r86 iv86 ar86 la86 pA86 pB86 => obc (mX2_typeOfVariable r86 iv86 ar86 la86 pA86 pB86) (fun r89 iv89 ar89 la89 pA89 pB89 => some (r89, iv89, ar89, la89, pA89, pB89))) := by
  unfold mX2_typeOf
  rw [hw]
  rfl
theorem tof21 {a1 : Int32} {iv : mI} {ar : mA} {la : mL} {pA pB : mA} (hw : mX6_wordB a1 iv ar la pA pB = some (nI 21, iv, ar, la, pA, pB)) : mX2_typeOf a1 iv ar la pA pB = obc (mX6_wordB (a1 + 1) iv ar la pA pB) (fun r101 iv101 ar101 la101 pA101 pB101 => obc (mX2_typeIn a1 0 iv101 ar101 la101 pA101 pB101) (fun r107 iv107 ar107 la107 pA107 pB107 => obc (mX2_typeOfLambda r101 r107 iv107 ar107 la107 pA107 pB107) (fun r110 iv110 ar110 la110 pA110 pB110 => some (r110, iv110, ar110, la110, pA110, pB110)))) := by
  unfold mX2_typeOf
  rw [hw]
  rfl
theorem tof22 {a1 : Int32} {iv : mI} {ar : mA} {la : mL} {pA pB : mA} (hw : mX6_wordB a1 iv ar la pA pB = some (nI 22, iv, ar, la, pA, pB)) : mX2_typeOf a1 iv ar la pA pB = obc (mX2_typeIn a1 0 iv ar la pA pB) (fun r118 iv118 ar118 la118 pA118 pB118 => obc (mX2_typeIn a1 1 iv118 ar118 la118 pA118 pB118) (fun r124 iv124 ar124 la124 pA124 pB124 => obc (mX2_typeOfApply r118 r124 iv124 ar124 la124 pA124 pB124) (fun r127 iv127 ar127 la127 pA127 pB127 => some (r127, iv127, ar127, la127, pA127, pB127)))) := by
  unfold mX2_typeOf
  rw [hw]
  rfl
theorem tof23 {a1 : Int32} {iv : mI} {ar : mA} {la : mL} {pA pB : mA} (hw : mX6_wordB a1 iv ar la pA pB = some (nI 23, iv, ar, la, pA, pB)) : mX2_typeOf a1 iv ar la pA pB = obc (mX3_make 2 iv ar la pA pB) (fun r136 iv136 ar136 la136 pA136 pB136 => some (r136, iv136, ar136, la136, pA136, pB136)) := by
  unfold mX2_typeOf
  rw [hw]
  rfl
theorem tof24 {a1 : Int32} {iv : mI} {ar : mA} {la : mL} {pA pB : mA} (hw : mX6_wordB a1 iv ar la pA pB = some (nI 24, iv, ar, la, pA, pB)) : mX2_typeOf a1 iv ar la pA pB = obc (mX2_bothNumbers a1 iv ar la pA pB) (fun r142 iv142 ar142 la142 pA142 pB142 => if r142 = 0 then some ((-15), iv142, ar142, la142, pA142, pB142) else obc (mX3_make 2 iv142 ar142 la142 pA142 pB142) (fun r153 iv153 ar153 la153 pA153 pB153 => some (r153, iv153, ar153, la153, pA153, pB153))) := by
  unfold mX2_typeOf
  rw [hw]
  rfl
theorem tof25 {a1 : Int32} {iv : mI} {ar : mA} {la : mL} {pA pB : mA} (hw : mX6_wordB a1 iv ar la pA pB = some (nI 25, iv, ar, la, pA, pB)) : mX2_typeOf a1 iv ar la pA pB = obc (mX2_bothNumbers a1 iv ar la pA pB) (fun r164 iv164 ar164 la164 pA164 pB164 => if r164 = 0 then some ((-15), iv164, ar164, la164, pA164, pB164) else obc (mX3_make 3 iv164 ar164 la164 pA164 pB164) (fun r175 iv175 ar175 la175 pA175 pB175 => some (r175, iv175, ar175, la175, pA175, pB175))) := by
  unfold mX2_typeOf
  rw [hw]
  rfl
theorem tof26 {a1 : Int32} {iv : mI} {ar : mA} {la : mL} {pA pB : mA} (hw : mX6_wordB a1 iv ar la pA pB = some (nI 26, iv, ar, la, pA, pB)) : mX2_typeOf a1 iv ar la pA pB = obc (mX3_make 3 iv ar la pA pB) (fun r189 iv189 ar189 la189 pA189 pB189 => some (r189, iv189, ar189, la189, pA189, pB189)) := by
  unfold mX2_typeOf
  rw [hw]
  rfl
theorem tof27 {a1 : Int32} {iv : mI} {ar : mA} {la : mL} {pA pB : mA} (hw : mX6_wordB a1 iv ar la pA pB = some (nI 27, iv, ar, la, pA, pB)) : mX2_typeOf a1 iv ar la pA pB = obc (mX3_make 3 iv ar la pA pB) (fun r189 iv189 ar189 la189 pA189 pB189 => some (r189, iv189, ar189, la189, pA189, pB189)) := by
  unfold mX2_typeOf
  rw [hw]
  rfl
theorem tof28 {a1 : Int32} {iv : mI} {ar : mA} {la : mL} {pA pB : mA} (hw : mX6_wordB a1 iv ar la pA pB = some (nI 28, iv, ar, la, pA, pB)) : mX2_typeOf a1 iv ar la pA pB = obc (mX2_typeIn a1 0 iv ar la pA pB) (fun r197 iv197 ar197 la197 pA197 pB197 => obc (mX2_isOrNothing r197 3 iv197 ar197 la197 pA197 pB197) (fun r201 iv201 ar201 la201 pA201 pB201 => if r201 = 0 then some ((-15), iv201, ar201, la201, pA201, pB201) else obc (mX2_typeIn a1 1 iv201 ar201 la201 pA201 pB201) (fun r210 iv210 ar210 la210 pA210 pB210 => some (r210, iv210, ar210, la210, pA210, pB210)))) := by
  unfold mX2_typeOf
  rw [hw]
  rfl
theorem tof29 {a1 : Int32} {iv : mI} {ar : mA} {la : mL} {pA pB : mA} (hw : mX6_wordB a1 iv ar la pA pB = some (nI 29, iv, ar, la, pA, pB)) : mX2_typeOf a1 iv ar la pA pB = obc (mX2_typeOfGather a1 iv ar la pA pB) (fun r221 iv221 ar221 la221 pA221 pB221 => some (r221, iv221, ar221, la221, pA221, pB221)) := by
  unfold mX2_typeOf
  rw [hw]
  rfl
theorem tof30 {a1 : Int32} {iv : mI} {ar : mA} {la : mL} {pA pB : mA} (hw : mX6_wordB a1 iv ar la pA pB = some (nI 30, iv, ar, la, pA, pB)) : mX2_typeOf a1 iv ar la pA pB = obc (mX2_typeIn a1 0 iv ar la pA pB) (fun r229 iv229 ar229 la229 pA229 pB229 => obc (mX6_wordB (a1 + 1) iv229 ar229 la229 pA229 pB229) (fun r239 iv239 ar239 la239 pA239 pB239 => obc (mX2_typeOfPick r229 r239 iv239 ar239 la239 pA239 pB239) (fun r242 iv242 ar242 la242 pA242 pB242 => some (r242, iv242, ar242, la242, pA242, pB242)))) := by
  unfold mX2_typeOf
  rw [hw]
  rfl
theorem tof31 {a1 : Int32} {iv : mI} {ar : mA} {la : mL} {pA pB : mA} (hw : mX6_wordB a1 iv ar la pA pB = some (nI 31, iv, ar, la, pA, pB)) : mX2_typeOf a1 iv ar la pA pB = obc (mX6_wordB (a1 + 1) iv ar la pA pB) (fun r254 iv254 ar254 la254 pA254 pB254 => obc (mX6_wordB (a1 + 2) iv254 ar254 la254 pA254 pB254) (fun r264 iv264 ar264 la264 pA264 pB264 => obc (mX2_typeIn a1 0 iv264 ar264 la264 pA264 pB264) (fun r270 iv270 ar270 la270 pA270 pB270 => obc (mX2_typeOfTag r254 r264 r270 iv270 ar270 la270 pA270 pB270) (fun r273 iv273 ar273 la273 pA273 pB273 => some (r273, iv273, ar273, la273, pA273, pB273))))) := by
  unfold mX2_typeOf
  rw [hw]
  rfl
theorem tof32 {a1 : Int32} {iv : mI} {ar : mA} {la : mL} {pA pB : mA} (hw : mX6_wordB a1 iv ar la pA pB = some (nI 32, iv, ar, la, pA, pB)) : mX2_typeOf a1 iv ar la pA pB = obc (mX2_typeOfSort a1 iv ar la pA pB) (fun r279 iv279 ar279 la279 pA279 pB279 => some (r279, iv279, ar279, la279, pA279, pB279)) := by
  unfold mX2_typeOf
  rw [hw]
  rfl
theorem tof33 {a1 : Int32} {iv : mI} {ar : mA} {la : mL} {pA pB : mA} (hw : mX6_wordB a1 iv ar la pA pB = some (nI 33, iv, ar, la, pA, pB)) : mX2_typeOf a1 iv ar la pA pB = obc (mX6_wordB (a1 + 1) iv ar la pA pB) (fun r291 iv291 ar291 la291 pA291 pB291 => obc (mX2_typeIn a1 0 iv291 ar291 la291 pA291 pB291) (fun r297 iv297 ar297 la297 pA297 pB297 => obc (mX2_typeOfItself r291 r297 iv297 ar297 la297 pA297 pB297) (fun r300 iv300 ar300 la300 pA300 pB300 => some (r300, iv300, ar300, la300, pA300, pB300)))) := by
  unfold mX2_typeOf
  rw [hw]
  rfl
theorem tdn20 {k : Nat} {a2 : Int32} {iw : mI} {aw : mA} (hk : k < 200) (hw : aw 32 k = nI 20) : mX12_typeDone (nI k) a2 iw aw = if (nI k) < 0 ∨ 200 ≤ (nI k).toNatClampNeg then none else if ((a2 - 1) - (aw 34 (nI k).toNatClampNeg)) < 0 ∨ 220 ≤ ((a2 - 1) - (aw 34 (nI k).toNatClampNeg)).toNatClampNeg then none else some ((aw 55 ((a2 - 1) - (aw 34 (nI k).toNatClampNeg)).toNatClampNeg), iw, aw) := by
  unfold mX12_typeDone
  rw [if_neg (nI_in (by omega) (by omega)), show aw 32 (nI k).toNatClampNeg = nI 20 by rw [ncl (by omega)]; exact hw]
  rfl
theorem tdn21 {k : Nat} {a2 : Int32} {iw : mI} {aw : mA} (hk : k < 200) (hw : aw 32 k = nI 21) : mX12_typeDone (nI k) a2 iw aw = ob (mX12_more 4 iw aw) (fun r90 iv90 ar90 => if (iv90 24) = 0 then if (nI k) < 0 ∨ 200 ≤ (nI k).toNatClampNeg then none else mX12_typeDone_J127 (nI k) r90 (ar90 34 (nI k).toNatClampNeg) (8 * r90) iv90 ar90 else if (8 * r90) < 0 ∨ 3200 ≤ (8 * r90).toNatClampNeg then none else mX12_typeDone_J127 (nI k) r90 (ar90 6 (8 * r90).toNatClampNeg) (8 * r90) iv90 ar90) := by
  unfold mX12_typeDone
  rw [if_neg (nI_in (by omega) (by omega)), show aw 32 (nI k).toNatClampNeg = nI 21 by rw [ncl (by omega)]; exact hw]
  rfl
theorem tdn22 {k : Nat} {a2 : Int32} {iw : mI} {aw : mA} (hk : k < 200) (hw : aw 32 k = nI 22) : mX12_typeDone (nI k) a2 iw aw = ob (mX12_typeApplied (nI k) iw aw) (fun r170 iv170 ar170 => some (r170, iv170, ar170)) := by
  unfold mX12_typeDone
  rw [if_neg (nI_in (by omega) (by omega)), show aw 32 (nI k).toNatClampNeg = nI 22 by rw [ncl (by omega)]; exact hw]
  rfl
theorem tdn23 {k : Nat} {a2 : Int32} {iw : mI} {aw : mA} (hk : k < 200) (hw : aw 32 k = nI 23) : mX12_typeDone (nI k) a2 iw aw = ob (mX12_more 2 iw aw) (fun r176 iv176 ar176 => some (r176, iv176, ar176)) := by
  unfold mX12_typeDone
  rw [if_neg (nI_in (by omega) (by omega)), show aw 32 (nI k).toNatClampNeg = nI 23 by rw [ncl (by omega)]; exact hw]
  rfl
theorem tdn24 {k : Nat} {a2 : Int32} {iw : mI} {aw : mA} (hk : k < 200) (hw : aw 32 k = nI 24) : mX12_typeDone (nI k) a2 iw aw = ob (mX12_typeInside (nI k) 0 iw aw) (fun r184 iv184 ar184 => ob (mX12_isKind r184 2 iv184 ar184) (fun r188 iv188 ar188 => if r188 = 0 then mX12_typeDone_J213 (nI k) 0 iv188 ar188 else ob (mX12_typeInside (nI k) 1 iv188 ar188) (fun r198 iv198 ar198 => ob (mX12_isKind r198 2 iv198 ar198) (fun r202 iv202 ar202 => if r202 = 0 then mX12_typeDone_J213 (nI k) 0 iv202 ar202 else mX12_typeDone_J213 (nI k) 1 iv202 ar202)))) := by
  unfold mX12_typeDone
  rw [if_neg (nI_in (by omega) (by omega)), show aw 32 (nI k).toNatClampNeg = nI 24 by rw [ncl (by omega)]; exact hw]
  rfl
theorem tdn25 {k : Nat} {a2 : Int32} {iw : mI} {aw : mA} (hk : k < 200) (hw : aw 32 k = nI 25) : mX12_typeDone (nI k) a2 iw aw = ob (mX12_typeInside (nI k) 0 iw aw) (fun r184 iv184 ar184 => ob (mX12_isKind r184 2 iv184 ar184) (fun r188 iv188 ar188 => if r188 = 0 then mX12_typeDone_J213 (nI k) 0 iv188 ar188 else ob (mX12_typeInside (nI k) 1 iv188 ar188) (fun r198 iv198 ar198 => ob (mX12_isKind r198 2 iv198 ar198) (fun r202 iv202 ar202 => if r202 = 0 then mX12_typeDone_J213 (nI k) 0 iv202 ar202 else mX12_typeDone_J213 (nI k) 1 iv202 ar202)))) := by
  unfold mX12_typeDone
  rw [if_neg (nI_in (by omega) (by omega)), show aw 32 (nI k).toNatClampNeg = nI 25 by rw [ncl (by omega)]; exact hw]
  rfl
theorem tdn26 {k : Nat} {a2 : Int32} {iw : mI} {aw : mA} (hk : k < 200) (hw : aw 32 k = nI 26) : mX12_typeDone (nI k) a2 iw aw = ob (mX12_more 3 iw aw) (fun r249 iv249 ar249 => some (r249, iv249, ar249)) := by
  unfold mX12_typeDone
  rw [if_neg (nI_in (by omega) (by omega)), show aw 32 (nI k).toNatClampNeg = nI 26 by rw [ncl (by omega)]; exact hw]
  rfl
theorem tdn27 {k : Nat} {a2 : Int32} {iw : mI} {aw : mA} (hk : k < 200) (hw : aw 32 k = nI 27) : mX12_typeDone (nI k) a2 iw aw = ob (mX12_more 3 iw aw) (fun r249 iv249 ar249 => some (r249, iv249, ar249)) := by
  unfold mX12_typeDone
  rw [if_neg (nI_in (by omega) (by omega)), show aw 32 (nI k).toNatClampNeg = nI 27 by rw [ncl (by omega)]; exact hw]
  rfl
theorem tdn28 {k : Nat} {a2 : Int32} {iw : mI} {aw : mA} (hk : k < 200) (hw : aw 32 k = nI 28) : mX12_typeDone (nI k) a2 iw aw = ob (mX12_typeInside (nI k) 0 iw aw) (fun r257 iv257 ar257 => ob (mX12_isKind r257 3 iv257 ar257) (fun r261 iv261 ar261 => if r261 = 0 then ob (mX12_misfit (nI k) iv261 ar261) (fun r288 iv288 ar288 => some (r288, iv288, ar288)) else ob (mX12_typeInside (nI k) 1 iv261 ar261) (fun r271 iv271 ar271 => ob (mX12_typeInside (nI k) 2 iv271 ar271) (fun r277 iv277 ar277 => ob (mX12_united r271 r277 iv277 ar277) (fun r280 iv280 ar280 => some (r280, iv280, ar280)))))) := by
  unfold mX12_typeDone
  rw [if_neg (nI_in (by omega) (by omega)), show aw 32 (nI k).toNatClampNeg = nI 28 by rw [ncl (by omega)]; exact hw]
  rfl
theorem tdn29 {k : Nat} {a2 : Int32} {iw : mI} {aw : mA} (hk : k < 200) (hw : aw 32 k = nI 29) : mX12_typeDone (nI k) a2 iw aw = ob (mX12_typeRecord (nI k) iw aw) (fun r294 iv294 ar294 => some (r294, iv294, ar294)) := by
  unfold mX12_typeDone
  rw [if_neg (nI_in (by omega) (by omega)), show aw 32 (nI k).toNatClampNeg = nI 29 by rw [ncl (by omega)]; exact hw]
  rfl
theorem tdn30 {k : Nat} {a2 : Int32} {iw : mI} {aw : mA} (hk : k < 200) (hw : aw 32 k = nI 30) : mX12_typeDone (nI k) a2 iw aw = ob (mX12_typeInside (nI k) 0 iw aw) (fun r301 iv301 ar301 => if r301 < 0 ∨ 400 ≤ r301.toNatClampNeg then none else if (ar301 4 r301.toNatClampNeg) = 5 then if r301 < 0 ∨ 400 ≤ r301.toNatClampNeg then none else if (nI k) < 0 ∨ 200 ≤ (nI k).toNatClampNeg then none else if (((ar301 5 r301.toNatClampNeg) >>> ((ar301 35 (nI k).toNatClampNeg) &&& 31)) &&& 1) = 1 then mX12_typeDone_J339 (nI k) r301 1 iv301 ar301 else mX12_typeDone_J339 (nI k) r301 0 iv301 ar301 else mX12_typeDone_J339 (nI k) r301 0 iv301 ar301) := by
  unfold mX12_typeDone
  rw [if_neg (nI_in (by omega) (by omega)), show aw 32 (nI k).toNatClampNeg = nI 30 by rw [ncl (by omega)]; exact hw]
  rfl
theorem tdn31 {k : Nat} {a2 : Int32} {iw : mI} {aw : mA} (hk : k < 200) (hw : aw 32 k = nI 31) : mX12_typeDone (nI k) a2 iw aw = ob (mX12_typeInside (nI k) 0 iw aw) (fun r384 iv384 ar384 => if (nI k) < 0 ∨ 200 ≤ (nI k).toNatClampNeg then none else if (nI k) < 0 ∨ 200 ≤ (nI k).toNatClampNeg then none else ob (mX12_part (ar384 34 (nI k).toNatClampNeg) (ar384 35 (nI k).toNatClampNeg) iv384 ar384) (fun r400 iv400 ar400 => ob (mX12_isBelow r384 r400 iv400 ar400) (fun r403 iv403 ar403 => if r403 = 0 then ob (mX12_misfit (nI k) iv403 ar403) (fun r420 iv420 ar420 => some (r420, iv420, ar420)) else if (nI k) < 0 ∨ 200 ≤ (nI k).toNatClampNeg then none else some ((ar403 34 (nI k).toNatClampNeg), iv403, ar403)))) := by
  unfold mX12_typeDone
  rw [if_neg (nI_in (by omega) (by omega)), show aw 32 (nI k).toNatClampNeg = nI 31 by rw [ncl (by omega)]; exact hw]
  rfl
theorem tdn32 {k : Nat} {a2 : Int32} {iw : mI} {aw : mA} (hk : k < 200) (hw : aw 32 k = nI 32) : mX12_typeDone (nI k) a2 iw aw = ob (mX12_typeTaken (nI k) iw aw) (fun r426 iv426 ar426 => some (r426, iv426, ar426)) := by
  unfold mX12_typeDone
  rw [if_neg (nI_in (by omega) (by omega)), show aw 32 (nI k).toNatClampNeg = nI 32 by rw [ncl (by omega)]; exact hw]
  rfl
theorem tdn33 {k : Nat} {a2 : Int32} {iw : mI} {aw : mA} (hk : k < 200) (hw : aw 32 k = nI 33) : mX12_typeDone (nI k) a2 iw aw = ob (mX12_typeInside (nI k) 0 iw aw) (fun r434 iv434 ar434 => if (nI k) < 0 ∨ 200 ≤ (nI k).toNatClampNeg then none else ob (mX12_isBelow r434 (ar434 34 (nI k).toNatClampNeg) iv434 ar434) (fun r443 iv443 ar443 => if r443 = 0 then ob (mX12_misfit (nI k) iv443 ar443) (fun r460 iv460 ar460 => some (r460, iv460, ar460)) else if (nI k) < 0 ∨ 200 ≤ (nI k).toNatClampNeg then none else some ((ar443 34 (nI k).toNatClampNeg), iv443, ar443))) := by
  unfold mX12_typeDone
  rw [if_neg (nI_in (by omega) (by omega)), show aw 32 (nI k).toNatClampNeg = nI 33 by rw [ncl (by omega)]; exact hw]
  rfl
